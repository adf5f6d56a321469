theorem dJ5_init_d00df_0 : decode cJ5_init_d00df 0 = .ok (.aload_n 0, 1) := by decide +kernel
theorem dJ5_init_d00df_1 : decode cJ5_init_d00df 1 = .ok (.invokespecial 3, 3) := by decide +kernel
theorem dJ5_init_d00df_4 : decode cJ5_init_d00df 4 = .ok (.getstatic 18, 3) := by decide +kernel
theorem dJ5_init_d00df_7 : decode cJ5_init_d00df 7 = .ok (.ifCond .eq 18, 3) := by decide +kernel
theorem dJ5_init_d00df_10 : decode cJ5_init_d00df 10 = .ok (.aload_n 0, 1) := by decide +kernel
theorem dJ5_init_d00df_11 : decode cJ5_init_d00df 11 = .ok (.iload_n 1, 1) := by decide +kernel
theorem dJ5_init_d00df_12 : decode cJ5_init_d00df 12 = .ok (.newarray .byte, 2) := by decide +kernel
theorem dJ5_init_d00df_14 : decode cJ5_init_d00df 14 = .ok (.putfield 15, 3) := by decide +kernel
theorem dJ5_init_d00df_17 : decode cJ5_init_d00df 17 = .ok (.aload_n 0, 1) := by decide +kernel
theorem dJ5_init_d00df_18 : decode cJ5_init_d00df 18 = .ok (.iconst 0, 1) := by decide +kernel
theorem dJ5_init_d00df_19 : decode cJ5_init_d00df 19 = .ok (.putfield 22, 3) := by decide +kernel
theorem dJ5_init_d00df_22 : decode cJ5_init_d00df 22 = .ok (.goto 16, 3) := by decide +kernel
theorem dJ5_init_d00df_25 : decode cJ5_init_d00df 25 = .ok (.aload_n 0, 1) := by decide +kernel
theorem dJ5_init_d00df_26 : decode cJ5_init_d00df 26 = .ok (.iload_n 1, 1) := by decide +kernel
theorem dJ5_init_d00df_27 : decode cJ5_init_d00df 27 = .ok (.invokestatic 26, 3) := by decide +kernel
theorem dJ5_init_d00df_30 : decode cJ5_init_d00df 30 = .ok (.putfield 15, 3) := by decide +kernel
theorem dJ5_init_d00df_33 : decode cJ5_init_d00df 33 = .ok (.aload_n 0, 1) := by decide +kernel
theorem dJ5_init_d00df_34 : decode cJ5_init_d00df 34 = .ok (.iconst 1, 1) := by decide +kernel
theorem dJ5_init_d00df_35 : decode cJ5_init_d00df 35 = .ok (.putfield 22, 3) := by decide +kernel
theorem dJ5_init_d00df_38 : decode cJ5_init_d00df 38 = .ok (.return_, 1) := by decide +kernel
theorem dJ5_length_8abf5_0 : decode cJ5_length_8abf5 0 = .ok (.aload_n 0, 1) := by decide +kernel
theorem dJ5_length_8abf5_1 : decode cJ5_length_8abf5 1 = .ok (.getfield 79, 3) := by decide +kernel
theorem dJ5_length_8abf5_4 : decode cJ5_length_8abf5 4 = .ok (.ireturn, 1) := by decide +kernel
theorem dJ5_ensureCapacityInternal_d00df_0 : decode cJ5_ensureCapacityInternal_d00df 0 = .ok (.aload_n 0, 1) := by decide +kernel
theorem dJ5_ensureCapacityInternal_d00df_1 : decode cJ5_ensureCapacityInternal_d00df 1 = .ok (.getfield 15, 3) := by decide +kernel
theorem dJ5_ensureCapacityInternal_d00df_4 : decode cJ5_ensureCapacityInternal_d00df 4 = .ok (.arraylength, 1) := by decide +kernel
theorem dJ5_ensureCapacityInternal_d00df_5 : decode cJ5_ensureCapacityInternal_d00df 5 = .ok (.aload_n 0, 1) := by decide +kernel
theorem dJ5_ensureCapacityInternal_d00df_6 : decode cJ5_ensureCapacityInternal_d00df 6 = .ok (.getfield 22, 3) := by decide +kernel
theorem dJ5_ensureCapacityInternal_d00df_9 : decode cJ5_ensureCapacityInternal_d00df 9 = .ok (.ishr, 1) := by decide +kernel
theorem dJ5_ensureCapacityInternal_d00df_10 : decode cJ5_ensureCapacityInternal_d00df 10 = .ok (.istore_n 2, 1) := by decide +kernel
theorem dJ5_ensureCapacityInternal_d00df_11 : decode cJ5_ensureCapacityInternal_d00df 11 = .ok (.iload_n 1, 1) := by decide +kernel
theorem dJ5_ensureCapacityInternal_d00df_12 : decode cJ5_ensureCapacityInternal_d00df 12 = .ok (.iload_n 2, 1) := by decide +kernel
theorem dJ5_ensureCapacityInternal_d00df_13 : decode cJ5_ensureCapacityInternal_d00df 13 = .ok (.isub, 1) := by decide +kernel
theorem dJ5_ensureCapacityInternal_d00df_14 : decode cJ5_ensureCapacityInternal_d00df 14 = .ok (.ifCond .le 24, 3) := by decide +kernel
theorem dJ5_ensureCapacityInternal_d00df_17 : decode cJ5_ensureCapacityInternal_d00df 17 = .ok (.aload_n 0, 1) := by decide +kernel
theorem dJ5_ensureCapacityInternal_d00df_18 : decode cJ5_ensureCapacityInternal_d00df 18 = .ok (.aload_n 0, 1) := by decide +kernel
theorem dJ5_ensureCapacityInternal_d00df_19 : decode cJ5_ensureCapacityInternal_d00df 19 = .ok (.getfield 15, 3) := by decide +kernel
theorem dJ5_ensureCapacityInternal_d00df_22 : decode cJ5_ensureCapacityInternal_d00df 22 = .ok (.aload_n 0, 1) := by decide +kernel
theorem dJ5_ensureCapacityInternal_d00df_23 : decode cJ5_ensureCapacityInternal_d00df 23 = .ok (.iload_n 1, 1) := by decide +kernel
theorem dJ5_ensureCapacityInternal_d00df_24 : decode cJ5_ensureCapacityInternal_d00df 24 = .ok (.invokevirtual 104, 3) := by decide +kernel
theorem dJ5_ensureCapacityInternal_d00df_27 : decode cJ5_ensureCapacityInternal_d00df 27 = .ok (.aload_n 0, 1) := by decide +kernel
theorem dJ5_ensureCapacityInternal_d00df_28 : decode cJ5_ensureCapacityInternal_d00df 28 = .ok (.getfield 22, 3) := by decide +kernel
theorem dJ5_ensureCapacityInternal_d00df_31 : decode cJ5_ensureCapacityInternal_d00df 31 = .ok (.ishl, 1) := by decide +kernel
theorem dJ5_ensureCapacityInternal_d00df_32 : decode cJ5_ensureCapacityInternal_d00df 32 = .ok (.invokestatic 108, 3) := by decide +kernel
theorem dJ5_ensureCapacityInternal_d00df_35 : decode cJ5_ensureCapacityInternal_d00df 35 = .ok (.putfield 15, 3) := by decide +kernel
theorem dJ5_ensureCapacityInternal_d00df_38 : decode cJ5_ensureCapacityInternal_d00df 38 = .ok (.return_, 1) := by decide +kernel
theorem dJ5_newCapacity_0f7a4_0 : decode cJ5_newCapacity_0f7a4 0 = .ok (.aload_n 0, 1) := by decide +kernel
theorem dJ5_newCapacity_0f7a4_1 : decode cJ5_newCapacity_0f7a4 1 = .ok (.getfield 15, 3) := by decide +kernel
theorem dJ5_newCapacity_0f7a4_4 : decode cJ5_newCapacity_0f7a4 4 = .ok (.arraylength, 1) := by decide +kernel
theorem dJ5_newCapacity_0f7a4_5 : decode cJ5_newCapacity_0f7a4 5 = .ok (.istore_n 2, 1) := by decide +kernel
theorem dJ5_newCapacity_0f7a4_6 : decode cJ5_newCapacity_0f7a4 6 = .ok (.iload_n 1, 1) := by decide +kernel
theorem dJ5_newCapacity_0f7a4_7 : decode cJ5_newCapacity_0f7a4 7 = .ok (.aload_n 0, 1) := by decide +kernel
theorem dJ5_newCapacity_0f7a4_8 : decode cJ5_newCapacity_0f7a4 8 = .ok (.getfield 22, 3) := by decide +kernel
theorem dJ5_newCapacity_0f7a4_11 : decode cJ5_newCapacity_0f7a4 11 = .ok (.ishl, 1) := by decide +kernel
theorem dJ5_newCapacity_0f7a4_12 : decode cJ5_newCapacity_0f7a4 12 = .ok (.istore_n 3, 1) := by decide +kernel
theorem dJ5_newCapacity_0f7a4_13 : decode cJ5_newCapacity_0f7a4 13 = .ok (.iload_n 3, 1) := by decide +kernel
theorem dJ5_newCapacity_0f7a4_14 : decode cJ5_newCapacity_0f7a4 14 = .ok (.iload_n 2, 1) := by decide +kernel
theorem dJ5_newCapacity_0f7a4_15 : decode cJ5_newCapacity_0f7a4 15 = .ok (.isub, 1) := by decide +kernel
theorem dJ5_newCapacity_0f7a4_16 : decode cJ5_newCapacity_0f7a4 16 = .ok (.istore 4, 2) := by decide +kernel
theorem dJ5_newCapacity_0f7a4_18 : decode cJ5_newCapacity_0f7a4 18 = .ok (.iload_n 2, 1) := by decide +kernel
theorem dJ5_newCapacity_0f7a4_19 : decode cJ5_newCapacity_0f7a4 19 = .ok (.iload 4, 2) := by decide +kernel
theorem dJ5_newCapacity_0f7a4_21 : decode cJ5_newCapacity_0f7a4 21 = .ok (.iload_n 2, 1) := by decide +kernel
theorem dJ5_newCapacity_0f7a4_22 : decode cJ5_newCapacity_0f7a4 22 = .ok (.iconst 2, 1) := by decide +kernel
theorem dJ5_newCapacity_0f7a4_23 : decode cJ5_newCapacity_0f7a4 23 = .ok (.aload_n 0, 1) := by decide +kernel
theorem dJ5_newCapacity_0f7a4_24 : decode cJ5_newCapacity_0f7a4 24 = .ok (.getfield 22, 3) := by decide +kernel
theorem dJ5_newCapacity_0f7a4_27 : decode cJ5_newCapacity_0f7a4 27 = .ok (.ishl, 1) := by decide +kernel
theorem dJ5_newCapacity_0f7a4_28 : decode cJ5_newCapacity_0f7a4 28 = .ok (.iadd, 1) := by decide +kernel
theorem dJ5_newCapacity_0f7a4_29 : decode cJ5_newCapacity_0f7a4 29 = .ok (.invokestatic 114, 3) := by decide +kernel
theorem dJ5_newCapacity_0f7a4_32 : decode cJ5_newCapacity_0f7a4 32 = .ok (.istore 5, 2) := by decide +kernel
theorem dJ5_newCapacity_0f7a4_34 : decode cJ5_newCapacity_0f7a4 34 = .ok (.iload 5, 2) := by decide +kernel
theorem dJ5_newCapacity_0f7a4_36 : decode cJ5_newCapacity_0f7a4 36 = .ok (.ldc 39, 2) := by decide +kernel
theorem dJ5_newCapacity_0f7a4_38 : decode cJ5_newCapacity_0f7a4 38 = .ok (.if_icmp .ne 13, 3) := by decide +kernel
theorem dJ5_newCapacity_0f7a4_41 : decode cJ5_newCapacity_0f7a4 41 = .ok (.new 120, 3) := by decide +kernel
theorem dJ5_newCapacity_0f7a4_44 : decode cJ5_newCapacity_0f7a4 44 = .ok (.dup, 1) := by decide +kernel
theorem dJ5_newCapacity_0f7a4_45 : decode cJ5_newCapacity_0f7a4 45 = .ok (.ldc 122, 2) := by decide +kernel
theorem dJ5_newCapacity_0f7a4_47 : decode cJ5_newCapacity_0f7a4 47 = .ok (.invokespecial 124, 3) := by decide +kernel
theorem dJ5_newCapacity_0f7a4_50 : decode cJ5_newCapacity_0f7a4 50 = .ok (.athrow, 1) := by decide +kernel
theorem dJ5_newCapacity_0f7a4_51 : decode cJ5_newCapacity_0f7a4 51 = .ok (.iload 5, 2) := by decide +kernel
theorem dJ5_newCapacity_0f7a4_53 : decode cJ5_newCapacity_0f7a4 53 = .ok (.aload_n 0, 1) := by decide +kernel
theorem dJ5_newCapacity_0f7a4_54 : decode cJ5_newCapacity_0f7a4 54 = .ok (.getfield 22, 3) := by decide +kernel
theorem dJ5_newCapacity_0f7a4_57 : decode cJ5_newCapacity_0f7a4 57 = .ok (.ishr, 1) := by decide +kernel
theorem dJ5_newCapacity_0f7a4_58 : decode cJ5_newCapacity_0f7a4 58 = .ok (.ireturn, 1) := by decide +kernel
theorem dJ5_inflate_da8c8_0 : decode cJ5_inflate_da8c8 0 = .ok (.aload_n 0, 1) := by decide +kernel
theorem dJ5_inflate_da8c8_1 : decode cJ5_inflate_da8c8 1 = .ok (.invokevirtual 83, 3) := by decide +kernel
theorem dJ5_inflate_da8c8_4 : decode cJ5_inflate_da8c8 4 = .ok (.ifCond .ne 4, 3) := by decide +kernel
theorem dJ5_inflate_da8c8_7 : decode cJ5_inflate_da8c8 7 = .ok (.return_, 1) := by decide +kernel
theorem dJ5_inflate_da8c8_8 : decode cJ5_inflate_da8c8 8 = .ok (.aload_n 0, 1) := by decide +kernel
theorem dJ5_inflate_da8c8_9 : decode cJ5_inflate_da8c8 9 = .ok (.getfield 15, 3) := by decide +kernel
theorem dJ5_inflate_da8c8_12 : decode cJ5_inflate_da8c8 12 = .ok (.arraylength, 1) := by decide +kernel
theorem dJ5_inflate_da8c8_13 : decode cJ5_inflate_da8c8 13 = .ok (.invokestatic 26, 3) := by decide +kernel
theorem dJ5_inflate_da8c8_16 : decode cJ5_inflate_da8c8 16 = .ok (.astore_n 1, 1) := by decide +kernel
theorem dJ5_inflate_da8c8_17 : decode cJ5_inflate_da8c8 17 = .ok (.aload_n 0, 1) := by decide +kernel
theorem dJ5_inflate_da8c8_18 : decode cJ5_inflate_da8c8 18 = .ok (.getfield 15, 3) := by decide +kernel
theorem dJ5_inflate_da8c8_21 : decode cJ5_inflate_da8c8 21 = .ok (.iconst 0, 1) := by decide +kernel
theorem dJ5_inflate_da8c8_22 : decode cJ5_inflate_da8c8 22 = .ok (.aload_n 1, 1) := by decide +kernel
theorem dJ5_inflate_da8c8_23 : decode cJ5_inflate_da8c8 23 = .ok (.iconst 0, 1) := by decide +kernel
theorem dJ5_inflate_da8c8_24 : decode cJ5_inflate_da8c8 24 = .ok (.aload_n 0, 1) := by decide +kernel
theorem dJ5_inflate_da8c8_25 : decode cJ5_inflate_da8c8 25 = .ok (.getfield 79, 3) := by decide +kernel
theorem dJ5_inflate_da8c8_28 : decode cJ5_inflate_da8c8 28 = .ok (.invokestatic 125, 3) := by decide +kernel
theorem dJ5_inflate_da8c8_31 : decode cJ5_inflate_da8c8 31 = .ok (.aload_n 0, 1) := by decide +kernel
theorem dJ5_inflate_da8c8_32 : decode cJ5_inflate_da8c8 32 = .ok (.aload_n 1, 1) := by decide +kernel
theorem dJ5_inflate_da8c8_33 : decode cJ5_inflate_da8c8 33 = .ok (.putfield 15, 3) := by decide +kernel
theorem dJ5_inflate_da8c8_36 : decode cJ5_inflate_da8c8 36 = .ok (.aload_n 0, 1) := by decide +kernel
theorem dJ5_inflate_da8c8_37 : decode cJ5_inflate_da8c8 37 = .ok (.iconst 1, 1) := by decide +kernel
theorem dJ5_inflate_da8c8_38 : decode cJ5_inflate_da8c8 38 = .ok (.putfield 22, 3) := by decide +kernel
theorem dJ5_inflate_da8c8_41 : decode cJ5_inflate_da8c8 41 = .ok (.return_, 1) := by decide +kernel
theorem dJ5_append_cf1ce_0 : decode cJ5_append_cf1ce 0 = .ok (.aload_n 1, 1) := by decide +kernel
theorem dJ5_append_cf1ce_1 : decode cJ5_append_cf1ce 1 = .ok (.ifnonnull 8, 3) := by decide +kernel
theorem dJ5_append_cf1ce_4 : decode cJ5_append_cf1ce 4 = .ok (.aload_n 0, 1) := by decide +kernel
theorem dJ5_append_cf1ce_5 : decode cJ5_append_cf1ce 5 = .ok (.invokevirtual 204, 3) := by decide +kernel
theorem dJ5_append_cf1ce_8 : decode cJ5_append_cf1ce 8 = .ok (.areturn, 1) := by decide +kernel
theorem dJ5_append_cf1ce_9 : decode cJ5_append_cf1ce 9 = .ok (.aload_n 1, 1) := by decide +kernel
theorem dJ5_append_cf1ce_10 : decode cJ5_append_cf1ce 10 = .ok (.invokevirtual 32, 3) := by decide +kernel
theorem dJ5_append_cf1ce_13 : decode cJ5_append_cf1ce 13 = .ok (.istore_n 2, 1) := by decide +kernel
theorem dJ5_append_cf1ce_14 : decode cJ5_append_cf1ce 14 = .ok (.aload_n 0, 1) := by decide +kernel
theorem dJ5_append_cf1ce_15 : decode cJ5_append_cf1ce 15 = .ok (.aload_n 0, 1) := by decide +kernel
theorem dJ5_append_cf1ce_16 : decode cJ5_append_cf1ce 16 = .ok (.getfield 79, 3) := by decide +kernel
theorem dJ5_append_cf1ce_19 : decode cJ5_append_cf1ce 19 = .ok (.iload_n 2, 1) := by decide +kernel
theorem dJ5_append_cf1ce_20 : decode cJ5_append_cf1ce 20 = .ok (.iadd, 1) := by decide +kernel
theorem dJ5_append_cf1ce_21 : decode cJ5_append_cf1ce 21 = .ok (.invokevirtual 100, 3) := by decide +kernel
theorem dJ5_append_cf1ce_24 : decode cJ5_append_cf1ce 24 = .ok (.aload_n 0, 1) := by decide +kernel
theorem dJ5_append_cf1ce_25 : decode cJ5_append_cf1ce 25 = .ok (.aload_n 0, 1) := by decide +kernel
theorem dJ5_append_cf1ce_26 : decode cJ5_append_cf1ce 26 = .ok (.getfield 79, 3) := by decide +kernel
theorem dJ5_append_cf1ce_29 : decode cJ5_append_cf1ce 29 = .ok (.aload_n 1, 1) := by decide +kernel
theorem dJ5_append_cf1ce_30 : decode cJ5_append_cf1ce 30 = .ok (.invokevirtual 208, 3) := by decide +kernel
theorem dJ5_append_cf1ce_33 : decode cJ5_append_cf1ce 33 = .ok (.aload_n 0, 1) := by decide +kernel
theorem dJ5_append_cf1ce_34 : decode cJ5_append_cf1ce 34 = .ok (.dup, 1) := by decide +kernel
theorem dJ5_append_cf1ce_35 : decode cJ5_append_cf1ce 35 = .ok (.getfield 79, 3) := by decide +kernel
theorem dJ5_append_cf1ce_38 : decode cJ5_append_cf1ce 38 = .ok (.iload_n 2, 1) := by decide +kernel
theorem dJ5_append_cf1ce_39 : decode cJ5_append_cf1ce 39 = .ok (.iadd, 1) := by decide +kernel
theorem dJ5_append_cf1ce_40 : decode cJ5_append_cf1ce 40 = .ok (.putfield 79, 3) := by decide +kernel
theorem dJ5_append_cf1ce_43 : decode cJ5_append_cf1ce 43 = .ok (.aload_n 0, 1) := by decide +kernel
theorem dJ5_append_cf1ce_44 : decode cJ5_append_cf1ce 44 = .ok (.areturn, 1) := by decide +kernel
theorem dJ5_appendNull_278bc_0 : decode cJ5_appendNull_278bc 0 = .ok (.aload_n 0, 1) := by decide +kernel
theorem dJ5_appendNull_278bc_1 : decode cJ5_appendNull_278bc 1 = .ok (.aload_n 0, 1) := by decide +kernel
theorem dJ5_appendNull_278bc_2 : decode cJ5_appendNull_278bc 2 = .ok (.getfield 79, 3) := by decide +kernel
theorem dJ5_appendNull_278bc_5 : decode cJ5_appendNull_278bc 5 = .ok (.iconst 4, 1) := by decide +kernel
theorem dJ5_appendNull_278bc_6 : decode cJ5_appendNull_278bc 6 = .ok (.iadd, 1) := by decide +kernel
theorem dJ5_appendNull_278bc_7 : decode cJ5_appendNull_278bc 7 = .ok (.invokevirtual 100, 3) := by decide +kernel
theorem dJ5_appendNull_278bc_10 : decode cJ5_appendNull_278bc 10 = .ok (.aload_n 0, 1) := by decide +kernel
theorem dJ5_appendNull_278bc_11 : decode cJ5_appendNull_278bc 11 = .ok (.getfield 79, 3) := by decide +kernel
theorem dJ5_appendNull_278bc_14 : decode cJ5_appendNull_278bc 14 = .ok (.istore_n 1, 1) := by decide +kernel
theorem dJ5_appendNull_278bc_15 : decode cJ5_appendNull_278bc 15 = .ok (.aload_n 0, 1) := by decide +kernel
theorem dJ5_appendNull_278bc_16 : decode cJ5_appendNull_278bc 16 = .ok (.getfield 15, 3) := by decide +kernel
theorem dJ5_appendNull_278bc_19 : decode cJ5_appendNull_278bc 19 = .ok (.astore_n 2, 1) := by decide +kernel
theorem dJ5_appendNull_278bc_20 : decode cJ5_appendNull_278bc 20 = .ok (.aload_n 0, 1) := by decide +kernel
theorem dJ5_appendNull_278bc_21 : decode cJ5_appendNull_278bc 21 = .ok (.invokevirtual 83, 3) := by decide +kernel
theorem dJ5_appendNull_278bc_24 : decode cJ5_appendNull_278bc 24 = .ok (.ifCond .eq 38, 3) := by decide +kernel
theorem dJ5_appendNull_278bc_27 : decode cJ5_appendNull_278bc 27 = .ok (.aload_n 2, 1) := by decide +kernel
theorem dJ5_appendNull_278bc_28 : decode cJ5_appendNull_278bc 28 = .ok (.iload_n 1, 1) := by decide +kernel
theorem dJ5_appendNull_278bc_29 : decode cJ5_appendNull_278bc 29 = .ok (.iinc 1 1, 3) := by decide +kernel
theorem dJ5_appendNull_278bc_32 : decode cJ5_appendNull_278bc 32 = .ok (.bipush 110, 2) := by decide +kernel
theorem dJ5_appendNull_278bc_34 : decode cJ5_appendNull_278bc 34 = .ok (.bastore, 1) := by decide +kernel
theorem dJ5_appendNull_278bc_35 : decode cJ5_appendNull_278bc 35 = .ok (.aload_n 2, 1) := by decide +kernel
theorem dJ5_appendNull_278bc_36 : decode cJ5_appendNull_278bc 36 = .ok (.iload_n 1, 1) := by decide +kernel
theorem dJ5_appendNull_278bc_37 : decode cJ5_appendNull_278bc 37 = .ok (.iinc 1 1, 3) := by decide +kernel
theorem dJ5_appendNull_278bc_40 : decode cJ5_appendNull_278bc 40 = .ok (.bipush 117, 2) := by decide +kernel
theorem dJ5_appendNull_278bc_42 : decode cJ5_appendNull_278bc 42 = .ok (.bastore, 1) := by decide +kernel
theorem dJ5_appendNull_278bc_43 : decode cJ5_appendNull_278bc 43 = .ok (.aload_n 2, 1) := by decide +kernel
theorem dJ5_appendNull_278bc_44 : decode cJ5_appendNull_278bc 44 = .ok (.iload_n 1, 1) := by decide +kernel
theorem dJ5_appendNull_278bc_45 : decode cJ5_appendNull_278bc 45 = .ok (.iinc 1 1, 3) := by decide +kernel
theorem dJ5_appendNull_278bc_48 : decode cJ5_appendNull_278bc 48 = .ok (.bipush 108, 2) := by decide +kernel
theorem dJ5_appendNull_278bc_50 : decode cJ5_appendNull_278bc 50 = .ok (.bastore, 1) := by decide +kernel
theorem dJ5_appendNull_278bc_51 : decode cJ5_appendNull_278bc 51 = .ok (.aload_n 2, 1) := by decide +kernel
theorem dJ5_appendNull_278bc_52 : decode cJ5_appendNull_278bc 52 = .ok (.iload_n 1, 1) := by decide +kernel
theorem dJ5_appendNull_278bc_53 : decode cJ5_appendNull_278bc 53 = .ok (.iinc 1 1, 3) := by decide +kernel
theorem dJ5_appendNull_278bc_56 : decode cJ5_appendNull_278bc 56 = .ok (.bipush 108, 2) := by decide +kernel
theorem dJ5_appendNull_278bc_58 : decode cJ5_appendNull_278bc 58 = .ok (.bastore, 1) := by decide +kernel
theorem dJ5_appendNull_278bc_59 : decode cJ5_appendNull_278bc 59 = .ok (.goto 17, 3) := by decide +kernel
theorem dJ5_appendNull_278bc_62 : decode cJ5_appendNull_278bc 62 = .ok (.aload_n 2, 1) := by decide +kernel
theorem dJ5_appendNull_278bc_63 : decode cJ5_appendNull_278bc 63 = .ok (.iload_n 1, 1) := by decide +kernel
theorem dJ5_appendNull_278bc_64 : decode cJ5_appendNull_278bc 64 = .ok (.bipush 110, 2) := by decide +kernel
theorem dJ5_appendNull_278bc_66 : decode cJ5_appendNull_278bc 66 = .ok (.bipush 117, 2) := by decide +kernel
theorem dJ5_appendNull_278bc_68 : decode cJ5_appendNull_278bc 68 = .ok (.bipush 108, 2) := by decide +kernel
theorem dJ5_appendNull_278bc_70 : decode cJ5_appendNull_278bc 70 = .ok (.bipush 108, 2) := by decide +kernel
theorem dJ5_appendNull_278bc_72 : decode cJ5_appendNull_278bc 72 = .ok (.invokestatic 226, 3) := by decide +kernel
theorem dJ5_appendNull_278bc_75 : decode cJ5_appendNull_278bc 75 = .ok (.istore_n 1, 1) := by decide +kernel
theorem dJ5_appendNull_278bc_76 : decode cJ5_appendNull_278bc 76 = .ok (.aload_n 0, 1) := by decide +kernel
theorem dJ5_appendNull_278bc_77 : decode cJ5_appendNull_278bc 77 = .ok (.iload_n 1, 1) := by decide +kernel
theorem dJ5_appendNull_278bc_78 : decode cJ5_appendNull_278bc 78 = .ok (.putfield 79, 3) := by decide +kernel
theorem dJ5_appendNull_278bc_81 : decode cJ5_appendNull_278bc 81 = .ok (.aload_n 0, 1) := by decide +kernel
theorem dJ5_appendNull_278bc_82 : decode cJ5_appendNull_278bc 82 = .ok (.areturn, 1) := by decide +kernel
theorem dJ5_append_c97b9_0 : decode cJ5_append_c97b9 0 = .ok (.aload_n 0, 1) := by decide +kernel
theorem dJ5_append_c97b9_1 : decode cJ5_append_c97b9 1 = .ok (.getfield 79, 3) := by decide +kernel
theorem dJ5_append_c97b9_4 : decode cJ5_append_c97b9 4 = .ok (.istore_n 2, 1) := by decide +kernel
theorem dJ5_append_c97b9_5 : decode cJ5_append_c97b9 5 = .ok (.iload_n 2, 1) := by decide +kernel
theorem dJ5_append_c97b9_6 : decode cJ5_append_c97b9 6 = .ok (.iload_n 1, 1) := by decide +kernel
theorem dJ5_append_c97b9_7 : decode cJ5_append_c97b9 7 = .ok (.invokestatic 245, 3) := by decide +kernel
theorem dJ5_append_c97b9_10 : decode cJ5_append_c97b9 10 = .ok (.iadd, 1) := by decide +kernel
theorem dJ5_append_c97b9_11 : decode cJ5_append_c97b9 11 = .ok (.istore_n 3, 1) := by decide +kernel
theorem dJ5_append_c97b9_12 : decode cJ5_append_c97b9 12 = .ok (.aload_n 0, 1) := by decide +kernel
theorem dJ5_append_c97b9_13 : decode cJ5_append_c97b9 13 = .ok (.iload_n 3, 1) := by decide +kernel
theorem dJ5_append_c97b9_14 : decode cJ5_append_c97b9 14 = .ok (.invokevirtual 100, 3) := by decide +kernel
theorem dJ5_append_c97b9_17 : decode cJ5_append_c97b9 17 = .ok (.aload_n 0, 1) := by decide +kernel
theorem dJ5_append_c97b9_18 : decode cJ5_append_c97b9 18 = .ok (.invokevirtual 83, 3) := by decide +kernel
theorem dJ5_append_c97b9_21 : decode cJ5_append_c97b9 21 = .ok (.ifCond .eq 16, 3) := by decide +kernel
theorem dJ5_append_c97b9_24 : decode cJ5_append_c97b9 24 = .ok (.iload_n 1, 1) := by decide +kernel
theorem dJ5_append_c97b9_25 : decode cJ5_append_c97b9 25 = .ok (.iload_n 3, 1) := by decide +kernel
theorem dJ5_append_c97b9_26 : decode cJ5_append_c97b9 26 = .ok (.aload_n 0, 1) := by decide +kernel
theorem dJ5_append_c97b9_27 : decode cJ5_append_c97b9 27 = .ok (.getfield 15, 3) := by decide +kernel
theorem dJ5_append_c97b9_30 : decode cJ5_append_c97b9 30 = .ok (.invokestatic 248, 3) := by decide +kernel
theorem dJ5_append_c97b9_33 : decode cJ5_append_c97b9 33 = .ok (.pop, 1) := by decide +kernel
theorem dJ5_append_c97b9_34 : decode cJ5_append_c97b9 34 = .ok (.goto 14, 3) := by decide +kernel
theorem dJ5_append_c97b9_37 : decode cJ5_append_c97b9 37 = .ok (.iload_n 1, 1) := by decide +kernel
theorem dJ5_append_c97b9_38 : decode cJ5_append_c97b9 38 = .ok (.iload_n 2, 1) := by decide +kernel
theorem dJ5_append_c97b9_39 : decode cJ5_append_c97b9 39 = .ok (.iload_n 3, 1) := by decide +kernel
theorem dJ5_append_c97b9_40 : decode cJ5_append_c97b9 40 = .ok (.aload_n 0, 1) := by decide +kernel
theorem dJ5_append_c97b9_41 : decode cJ5_append_c97b9 41 = .ok (.getfield 15, 3) := by decide +kernel
theorem dJ5_append_c97b9_44 : decode cJ5_append_c97b9 44 = .ok (.invokestatic 251, 3) := by decide +kernel
theorem dJ5_append_c97b9_47 : decode cJ5_append_c97b9 47 = .ok (.pop, 1) := by decide +kernel
theorem dJ5_append_c97b9_48 : decode cJ5_append_c97b9 48 = .ok (.aload_n 0, 1) := by decide +kernel
theorem dJ5_append_c97b9_49 : decode cJ5_append_c97b9 49 = .ok (.iload_n 3, 1) := by decide +kernel
theorem dJ5_append_c97b9_50 : decode cJ5_append_c97b9 50 = .ok (.putfield 79, 3) := by decide +kernel
theorem dJ5_append_c97b9_53 : decode cJ5_append_c97b9 53 = .ok (.aload_n 0, 1) := by decide +kernel
theorem dJ5_append_c97b9_54 : decode cJ5_append_c97b9 54 = .ok (.areturn, 1) := by decide +kernel
theorem dJ5_getValue_6d5f1_0 : decode cJ5_getValue_6d5f1 0 = .ok (.aload_n 0, 1) := by decide +kernel
theorem dJ5_getValue_6d5f1_1 : decode cJ5_getValue_6d5f1 1 = .ok (.getfield 15, 3) := by decide +kernel
theorem dJ5_getValue_6d5f1_4 : decode cJ5_getValue_6d5f1 4 = .ok (.areturn, 1) := by decide +kernel
theorem dJ5_isLatin1_aae02_0 : decode cJ5_isLatin1_aae02 0 = .ok (.getstatic 18, 3) := by decide +kernel
theorem dJ5_isLatin1_aae02_3 : decode cJ5_isLatin1_aae02 3 = .ok (.ifCond .eq 14, 3) := by decide +kernel
theorem dJ5_isLatin1_aae02_6 : decode cJ5_isLatin1_aae02 6 = .ok (.aload_n 0, 1) := by decide +kernel
theorem dJ5_isLatin1_aae02_7 : decode cJ5_isLatin1_aae02 7 = .ok (.getfield 22, 3) := by decide +kernel
theorem dJ5_isLatin1_aae02_10 : decode cJ5_isLatin1_aae02 10 = .ok (.ifCond .ne 7, 3) := by decide +kernel
theorem dJ5_isLatin1_aae02_13 : decode cJ5_isLatin1_aae02 13 = .ok (.iconst 1, 1) := by decide +kernel
theorem dJ5_isLatin1_aae02_14 : decode cJ5_isLatin1_aae02 14 = .ok (.goto 4, 3) := by decide +kernel
theorem dJ5_isLatin1_aae02_17 : decode cJ5_isLatin1_aae02 17 = .ok (.iconst 0, 1) := by decide +kernel
theorem dJ5_isLatin1_aae02_18 : decode cJ5_isLatin1_aae02 18 = .ok (.ireturn, 1) := by decide +kernel
theorem dJ5_inflateIfNeededFor_a7421_0 : decode cJ5_inflateIfNeededFor_a7421 0 = .ok (.getstatic 18, 3) := by decide +kernel
theorem dJ5_inflateIfNeededFor_a7421_3 : decode cJ5_inflateIfNeededFor_a7421 3 = .ok (.ifCond .eq 18, 3) := by decide +kernel
theorem dJ5_inflateIfNeededFor_a7421_6 : decode cJ5_inflateIfNeededFor_a7421 6 = .ok (.aload_n 0, 1) := by decide +kernel
theorem dJ5_inflateIfNeededFor_a7421_7 : decode cJ5_inflateIfNeededFor_a7421 7 = .ok (.getfield 22, 3) := by decide +kernel
theorem dJ5_inflateIfNeededFor_a7421_10 : decode cJ5_inflateIfNeededFor_a7421 10 = .ok (.aload_n 1, 1) := by decide +kernel
theorem dJ5_inflateIfNeededFor_a7421_11 : decode cJ5_inflateIfNeededFor_a7421 11 = .ok (.invokevirtual 40, 3) := by decide +kernel
theorem dJ5_inflateIfNeededFor_a7421_14 : decode cJ5_inflateIfNeededFor_a7421 14 = .ok (.if_icmp .eq 7, 3) := by decide +kernel
theorem dJ5_inflateIfNeededFor_a7421_17 : decode cJ5_inflateIfNeededFor_a7421 17 = .ok (.aload_n 0, 1) := by decide +kernel
theorem dJ5_inflateIfNeededFor_a7421_18 : decode cJ5_inflateIfNeededFor_a7421 18 = .ok (.invokevirtual 195, 3) := by decide +kernel
theorem dJ5_inflateIfNeededFor_a7421_21 : decode cJ5_inflateIfNeededFor_a7421 21 = .ok (.return_, 1) := by decide +kernel
theorem dJ5_putStringAt_47b60_0 : decode cJ5_putStringAt_47b60 0 = .ok (.aload_n 0, 1) := by decide +kernel
theorem dJ5_putStringAt_47b60_1 : decode cJ5_putStringAt_47b60 1 = .ok (.aload_n 2, 1) := by decide +kernel
theorem dJ5_putStringAt_47b60_2 : decode cJ5_putStringAt_47b60 2 = .ok (.invokevirtual 397, 3) := by decide +kernel
theorem dJ5_putStringAt_47b60_5 : decode cJ5_putStringAt_47b60 5 = .ok (.aload_n 2, 1) := by decide +kernel
theorem dJ5_putStringAt_47b60_6 : decode cJ5_putStringAt_47b60 6 = .ok (.aload_n 0, 1) := by decide +kernel
theorem dJ5_putStringAt_47b60_7 : decode cJ5_putStringAt_47b60 7 = .ok (.getfield 15, 3) := by decide +kernel
theorem dJ5_putStringAt_47b60_10 : decode cJ5_putStringAt_47b60 10 = .ok (.iload_n 1, 1) := by decide +kernel
theorem dJ5_putStringAt_47b60_11 : decode cJ5_putStringAt_47b60 11 = .ok (.aload_n 0, 1) := by decide +kernel
theorem dJ5_putStringAt_47b60_12 : decode cJ5_putStringAt_47b60 12 = .ok (.getfield 22, 3) := by decide +kernel
theorem dJ5_putStringAt_47b60_15 : decode cJ5_putStringAt_47b60 15 = .ok (.invokevirtual 399, 3) := by decide +kernel
theorem dJ5_putStringAt_47b60_18 : decode cJ5_putStringAt_47b60 18 = .ok (.return_, 1) := by decide +kernel
theorem dJ11_isValidCodePoint_9a6ad_0 : decode cJ11_isValidCodePoint_9a6ad 0 = .ok (.iload_n 0, 1) := by decide +kernel
theorem dJ11_isValidCodePoint_9a6ad_1 : decode cJ11_isValidCodePoint_9a6ad 1 = .ok (.bipush 16, 2) := by decide +kernel
theorem dJ11_isValidCodePoint_9a6ad_3 : decode cJ11_isValidCodePoint_9a6ad 3 = .ok (.iushr, 1) := by decide +kernel
theorem dJ11_isValidCodePoint_9a6ad_4 : decode cJ11_isValidCodePoint_9a6ad 4 = .ok (.istore_n 1, 1) := by decide +kernel
theorem dJ11_isValidCodePoint_9a6ad_5 : decode cJ11_isValidCodePoint_9a6ad 5 = .ok (.iload_n 1, 1) := by decide +kernel
theorem dJ11_isValidCodePoint_9a6ad_6 : decode cJ11_isValidCodePoint_9a6ad 6 = .ok (.bipush 17, 2) := by decide +kernel
theorem dJ11_isValidCodePoint_9a6ad_8 : decode cJ11_isValidCodePoint_9a6ad 8 = .ok (.if_icmp .ge 7, 3) := by decide +kernel
theorem dJ11_isValidCodePoint_9a6ad_11 : decode cJ11_isValidCodePoint_9a6ad 11 = .ok (.iconst 1, 1) := by decide +kernel
theorem dJ11_isValidCodePoint_9a6ad_12 : decode cJ11_isValidCodePoint_9a6ad 12 = .ok (.goto 4, 3) := by decide +kernel
theorem dJ11_isValidCodePoint_9a6ad_15 : decode cJ11_isValidCodePoint_9a6ad 15 = .ok (.iconst 0, 1) := by decide +kernel
theorem dJ11_isValidCodePoint_9a6ad_16 : decode cJ11_isValidCodePoint_9a6ad 16 = .ok (.ireturn, 1) := by decide +kernel
theorem dJ11_highSurrogate_5068e_0 : decode cJ11_highSurrogate_5068e 0 = .ok (.iload_n 0, 1) := by decide +kernel
theorem dJ11_highSurrogate_5068e_1 : decode cJ11_highSurrogate_5068e 1 = .ok (.bipush 10, 2) := by decide +kernel
theorem dJ11_highSurrogate_5068e_3 : decode cJ11_highSurrogate_5068e 3 = .ok (.iushr, 1) := by decide +kernel
theorem dJ11_highSurrogate_5068e_4 : decode cJ11_highSurrogate_5068e 4 = .ok (.ldc 110, 2) := by decide +kernel
theorem dJ11_highSurrogate_5068e_6 : decode cJ11_highSurrogate_5068e 6 = .ok (.iadd, 1) := by decide +kernel
theorem dJ11_highSurrogate_5068e_7 : decode cJ11_highSurrogate_5068e 7 = .ok (.i2c, 1) := by decide +kernel
theorem dJ11_highSurrogate_5068e_8 : decode cJ11_highSurrogate_5068e 8 = .ok (.ireturn, 1) := by decide +kernel
theorem dJ11_lowSurrogate_5068e_0 : decode cJ11_lowSurrogate_5068e 0 = .ok (.iload_n 0, 1) := by decide +kernel
theorem dJ11_lowSurrogate_5068e_1 : decode cJ11_lowSurrogate_5068e 1 = .ok (.sipush 1023, 3) := by decide +kernel
theorem dJ11_lowSurrogate_5068e_4 : decode cJ11_lowSurrogate_5068e 4 = .ok (.iand, 1) := by decide +kernel
theorem dJ11_lowSurrogate_5068e_5 : decode cJ11_lowSurrogate_5068e 5 = .ok (.ldc 76, 2) := by decide +kernel
theorem dJ11_lowSurrogate_5068e_7 : decode cJ11_lowSurrogate_5068e 7 = .ok (.iadd, 1) := by decide +kernel
theorem dJ11_lowSurrogate_5068e_8 : decode cJ11_lowSurrogate_5068e 8 = .ok (.i2c, 1) := by decide +kernel
theorem dJ11_lowSurrogate_5068e_9 : decode cJ11_lowSurrogate_5068e 9 = .ok (.ireturn, 1) := by decide +kernel
theorem dJ6_getChars_ba4f3_0 : decode cJ6_getChars_ba4f3 0 = .ok (.iload_n 1, 1) := by decide +kernel
theorem dJ6_getChars_ba4f3_1 : decode cJ6_getChars_ba4f3 1 = .ok (.istore 5, 2) := by decide +kernel
theorem dJ6_getChars_ba4f3_3 : decode cJ6_getChars_ba4f3 3 = .ok (.iload_n 0, 1) := by decide +kernel
theorem dJ6_getChars_ba4f3_4 : decode cJ6_getChars_ba4f3 4 = .ok (.ifCond .ge 7, 3) := by decide +kernel
theorem dJ6_getChars_ba4f3_7 : decode cJ6_getChars_ba4f3 7 = .ok (.iconst 1, 1) := by decide +kernel
theorem dJ6_getChars_ba4f3_8 : decode cJ6_getChars_ba4f3 8 = .ok (.goto 4, 3) := by decide +kernel
theorem dJ6_getChars_ba4f3_11 : decode cJ6_getChars_ba4f3 11 = .ok (.iconst 0, 1) := by decide +kernel
theorem dJ6_getChars_ba4f3_12 : decode cJ6_getChars_ba4f3 12 = .ok (.istore 6, 2) := by decide +kernel
theorem dJ6_getChars_ba4f3_14 : decode cJ6_getChars_ba4f3 14 = .ok (.iload 6, 2) := by decide +kernel
theorem dJ6_getChars_ba4f3_16 : decode cJ6_getChars_ba4f3 16 = .ok (.ifCond .ne 6, 3) := by decide +kernel
theorem dJ6_getChars_ba4f3_19 : decode cJ6_getChars_ba4f3 19 = .ok (.iload_n 0, 1) := by decide +kernel
theorem dJ6_getChars_ba4f3_20 : decode cJ6_getChars_ba4f3 20 = .ok (.ineg, 1) := by decide +kernel
theorem dJ6_getChars_ba4f3_21 : decode cJ6_getChars_ba4f3 21 = .ok (.istore_n 0, 1) := by decide +kernel
theorem dJ6_getChars_ba4f3_22 : decode cJ6_getChars_ba4f3 22 = .ok (.iload_n 0, 1) := by decide +kernel
theorem dJ6_getChars_ba4f3_23 : decode cJ6_getChars_ba4f3 23 = .ok (.bipush (-100), 2) := by decide +kernel
theorem dJ6_getChars_ba4f3_25 : decode cJ6_getChars_ba4f3 25 = .ok (.if_icmp .gt 47, 3) := by decide +kernel
theorem dJ6_getChars_ba4f3_28 : decode cJ6_getChars_ba4f3 28 = .ok (.iload_n 0, 1) := by decide +kernel
theorem dJ6_getChars_ba4f3_29 : decode cJ6_getChars_ba4f3 29 = .ok (.bipush 100, 2) := by decide +kernel
theorem dJ6_getChars_ba4f3_31 : decode cJ6_getChars_ba4f3 31 = .ok (.idiv, 1) := by decide +kernel
theorem dJ6_getChars_ba4f3_32 : decode cJ6_getChars_ba4f3 32 = .ok (.istore_n 3, 1) := by decide +kernel
theorem dJ6_getChars_ba4f3_33 : decode cJ6_getChars_ba4f3 33 = .ok (.iload_n 3, 1) := by decide +kernel
theorem dJ6_getChars_ba4f3_34 : decode cJ6_getChars_ba4f3 34 = .ok (.bipush 100, 2) := by decide +kernel
theorem dJ6_getChars_ba4f3_36 : decode cJ6_getChars_ba4f3 36 = .ok (.imul, 1) := by decide +kernel
theorem dJ6_getChars_ba4f3_37 : decode cJ6_getChars_ba4f3 37 = .ok (.iload_n 0, 1) := by decide +kernel
theorem dJ6_getChars_ba4f3_38 : decode cJ6_getChars_ba4f3 38 = .ok (.isub, 1) := by decide +kernel
theorem dJ6_getChars_ba4f3_39 : decode cJ6_getChars_ba4f3 39 = .ok (.istore 4, 2) := by decide +kernel
theorem dJ6_getChars_ba4f3_41 : decode cJ6_getChars_ba4f3 41 = .ok (.iload_n 3, 1) := by decide +kernel
theorem dJ6_getChars_ba4f3_42 : decode cJ6_getChars_ba4f3 42 = .ok (.istore_n 0, 1) := by decide +kernel
theorem dJ6_getChars_ba4f3_43 : decode cJ6_getChars_ba4f3 43 = .ok (.aload_n 2, 1) := by decide +kernel
theorem dJ6_getChars_ba4f3_44 : decode cJ6_getChars_ba4f3 44 = .ok (.iinc 5 (-1), 3) := by decide +kernel
theorem dJ6_getChars_ba4f3_47 : decode cJ6_getChars_ba4f3 47 = .ok (.iload 5, 2) := by decide +kernel
theorem dJ6_getChars_ba4f3_49 : decode cJ6_getChars_ba4f3 49 = .ok (.getstatic 83, 3) := by decide +kernel
theorem dJ6_getChars_ba4f3_52 : decode cJ6_getChars_ba4f3 52 = .ok (.iload 4, 2) := by decide +kernel
theorem dJ6_getChars_ba4f3_54 : decode cJ6_getChars_ba4f3 54 = .ok (.baload, 1) := by decide +kernel
theorem dJ6_getChars_ba4f3_55 : decode cJ6_getChars_ba4f3 55 = .ok (.bastore, 1) := by decide +kernel
theorem dJ6_getChars_ba4f3_56 : decode cJ6_getChars_ba4f3 56 = .ok (.aload_n 2, 1) := by decide +kernel
theorem dJ6_getChars_ba4f3_57 : decode cJ6_getChars_ba4f3 57 = .ok (.iinc 5 (-1), 3) := by decide +kernel
theorem dJ6_getChars_ba4f3_60 : decode cJ6_getChars_ba4f3 60 = .ok (.iload 5, 2) := by decide +kernel
theorem dJ6_getChars_ba4f3_62 : decode cJ6_getChars_ba4f3 62 = .ok (.getstatic 87, 3) := by decide +kernel
theorem dJ6_getChars_ba4f3_65 : decode cJ6_getChars_ba4f3 65 = .ok (.iload 4, 2) := by decide +kernel
theorem dJ6_getChars_ba4f3_67 : decode cJ6_getChars_ba4f3 67 = .ok (.baload, 1) := by decide +kernel
theorem dJ6_getChars_ba4f3_68 : decode cJ6_getChars_ba4f3 68 = .ok (.bastore, 1) := by decide +kernel
theorem dJ6_getChars_ba4f3_69 : decode cJ6_getChars_ba4f3 69 = .ok (.goto (-47), 3) := by decide +kernel
theorem dJ6_getChars_ba4f3_72 : decode cJ6_getChars_ba4f3 72 = .ok (.aload_n 2, 1) := by decide +kernel
theorem dJ6_getChars_ba4f3_73 : decode cJ6_getChars_ba4f3 73 = .ok (.iinc 5 (-1), 3) := by decide +kernel
theorem dJ6_getChars_ba4f3_76 : decode cJ6_getChars_ba4f3 76 = .ok (.iload 5, 2) := by decide +kernel
theorem dJ6_getChars_ba4f3_78 : decode cJ6_getChars_ba4f3 78 = .ok (.getstatic 83, 3) := by decide +kernel
theorem dJ6_getChars_ba4f3_81 : decode cJ6_getChars_ba4f3 81 = .ok (.iload_n 0, 1) := by decide +kernel
theorem dJ6_getChars_ba4f3_82 : decode cJ6_getChars_ba4f3 82 = .ok (.ineg, 1) := by decide +kernel
theorem dJ6_getChars_ba4f3_83 : decode cJ6_getChars_ba4f3 83 = .ok (.baload, 1) := by decide +kernel
theorem dJ6_getChars_ba4f3_84 : decode cJ6_getChars_ba4f3 84 = .ok (.bastore, 1) := by decide +kernel
theorem dJ6_getChars_ba4f3_85 : decode cJ6_getChars_ba4f3 85 = .ok (.iload_n 0, 1) := by decide +kernel
theorem dJ6_getChars_ba4f3_86 : decode cJ6_getChars_ba4f3 86 = .ok (.bipush (-9), 2) := by decide +kernel
theorem dJ6_getChars_ba4f3_88 : decode cJ6_getChars_ba4f3 88 = .ok (.if_icmp .ge 16, 3) := by decide +kernel
theorem dJ6_getChars_ba4f3_91 : decode cJ6_getChars_ba4f3 91 = .ok (.aload_n 2, 1) := by decide +kernel
theorem dJ6_getChars_ba4f3_92 : decode cJ6_getChars_ba4f3 92 = .ok (.iinc 5 (-1), 3) := by decide +kernel
theorem dJ6_getChars_ba4f3_95 : decode cJ6_getChars_ba4f3 95 = .ok (.iload 5, 2) := by decide +kernel
theorem dJ6_getChars_ba4f3_97 : decode cJ6_getChars_ba4f3 97 = .ok (.getstatic 87, 3) := by decide +kernel
theorem dJ6_getChars_ba4f3_100 : decode cJ6_getChars_ba4f3 100 = .ok (.iload_n 0, 1) := by decide +kernel
theorem dJ6_getChars_ba4f3_101 : decode cJ6_getChars_ba4f3 101 = .ok (.ineg, 1) := by decide +kernel
theorem dJ6_getChars_ba4f3_102 : decode cJ6_getChars_ba4f3 102 = .ok (.baload, 1) := by decide +kernel
theorem dJ6_getChars_ba4f3_103 : decode cJ6_getChars_ba4f3 103 = .ok (.bastore, 1) := by decide +kernel
theorem dJ6_getChars_ba4f3_104 : decode cJ6_getChars_ba4f3 104 = .ok (.iload 6, 2) := by decide +kernel
theorem dJ6_getChars_ba4f3_106 : decode cJ6_getChars_ba4f3 106 = .ok (.ifCond .eq 12, 3) := by decide +kernel
theorem dJ6_getChars_ba4f3_109 : decode cJ6_getChars_ba4f3 109 = .ok (.aload_n 2, 1) := by decide +kernel
theorem dJ6_getChars_ba4f3_110 : decode cJ6_getChars_ba4f3 110 = .ok (.iinc 5 (-1), 3) := by decide +kernel
theorem dJ6_getChars_ba4f3_113 : decode cJ6_getChars_ba4f3 113 = .ok (.iload 5, 2) := by decide +kernel
theorem dJ6_getChars_ba4f3_115 : decode cJ6_getChars_ba4f3 115 = .ok (.bipush 45, 2) := by decide +kernel
theorem dJ6_getChars_ba4f3_117 : decode cJ6_getChars_ba4f3 117 = .ok (.bastore, 1) := by decide +kernel
theorem dJ6_getChars_ba4f3_118 : decode cJ6_getChars_ba4f3 118 = .ok (.iload 5, 2) := by decide +kernel
theorem dJ6_getChars_ba4f3_120 : decode cJ6_getChars_ba4f3 120 = .ok (.ireturn, 1) := by decide +kernel
theorem dJ6_stringSize_0f7a4_0 : decode cJ6_stringSize_0f7a4 0 = .ok (.iconst 1, 1) := by decide +kernel
theorem dJ6_stringSize_0f7a4_1 : decode cJ6_stringSize_0f7a4 1 = .ok (.istore_n 1, 1) := by decide +kernel
theorem dJ6_stringSize_0f7a4_2 : decode cJ6_stringSize_0f7a4 2 = .ok (.iload_n 0, 1) := by decide +kernel
theorem dJ6_stringSize_0f7a4_3 : decode cJ6_stringSize_0f7a4 3 = .ok (.ifCond .lt 8, 3) := by decide +kernel
theorem dJ6_stringSize_0f7a4_6 : decode cJ6_stringSize_0f7a4 6 = .ok (.iconst 0, 1) := by decide +kernel
theorem dJ6_stringSize_0f7a4_7 : decode cJ6_stringSize_0f7a4 7 = .ok (.istore_n 1, 1) := by decide +kernel
theorem dJ6_stringSize_0f7a4_8 : decode cJ6_stringSize_0f7a4 8 = .ok (.iload_n 0, 1) := by decide +kernel
theorem dJ6_stringSize_0f7a4_9 : decode cJ6_stringSize_0f7a4 9 = .ok (.ineg, 1) := by decide +kernel
theorem dJ6_stringSize_0f7a4_10 : decode cJ6_stringSize_0f7a4 10 = .ok (.istore_n 0, 1) := by decide +kernel
theorem dJ6_stringSize_0f7a4_11 : decode cJ6_stringSize_0f7a4 11 = .ok (.bipush (-10), 2) := by decide +kernel
theorem dJ6_stringSize_0f7a4_13 : decode cJ6_stringSize_0f7a4 13 = .ok (.istore_n 2, 1) := by decide +kernel
theorem dJ6_stringSize_0f7a4_14 : decode cJ6_stringSize_0f7a4 14 = .ok (.iconst 1, 1) := by decide +kernel
theorem dJ6_stringSize_0f7a4_15 : decode cJ6_stringSize_0f7a4 15 = .ok (.istore_n 3, 1) := by decide +kernel
theorem dJ6_stringSize_0f7a4_16 : decode cJ6_stringSize_0f7a4 16 = .ok (.iload_n 3, 1) := by decide +kernel
theorem dJ6_stringSize_0f7a4_17 : decode cJ6_stringSize_0f7a4 17 = .ok (.bipush 10, 2) := by decide +kernel
theorem dJ6_stringSize_0f7a4_19 : decode cJ6_stringSize_0f7a4 19 = .ok (.if_icmp .ge 23, 3) := by decide +kernel
theorem dJ6_stringSize_0f7a4_22 : decode cJ6_stringSize_0f7a4 22 = .ok (.iload_n 0, 1) := by decide +kernel
theorem dJ6_stringSize_0f7a4_23 : decode cJ6_stringSize_0f7a4 23 = .ok (.iload_n 2, 1) := by decide +kernel
theorem dJ6_stringSize_0f7a4_24 : decode cJ6_stringSize_0f7a4 24 = .ok (.if_icmp .le 7, 3) := by decide +kernel
theorem dJ6_stringSize_0f7a4_27 : decode cJ6_stringSize_0f7a4 27 = .ok (.iload_n 3, 1) := by decide +kernel
theorem dJ6_stringSize_0f7a4_28 : decode cJ6_stringSize_0f7a4 28 = .ok (.iload_n 1, 1) := by decide +kernel
theorem dJ6_stringSize_0f7a4_29 : decode cJ6_stringSize_0f7a4 29 = .ok (.iadd, 1) := by decide +kernel
theorem dJ6_stringSize_0f7a4_30 : decode cJ6_stringSize_0f7a4 30 = .ok (.ireturn, 1) := by decide +kernel
theorem dJ6_stringSize_0f7a4_31 : decode cJ6_stringSize_0f7a4 31 = .ok (.bipush 10, 2) := by decide +kernel
theorem dJ6_stringSize_0f7a4_33 : decode cJ6_stringSize_0f7a4 33 = .ok (.iload_n 2, 1) := by decide +kernel
theorem dJ6_stringSize_0f7a4_34 : decode cJ6_stringSize_0f7a4 34 = .ok (.imul, 1) := by decide +kernel
theorem dJ6_stringSize_0f7a4_35 : decode cJ6_stringSize_0f7a4 35 = .ok (.istore_n 2, 1) := by decide +kernel
theorem dJ6_stringSize_0f7a4_36 : decode cJ6_stringSize_0f7a4 36 = .ok (.iinc 3 1, 3) := by decide +kernel
theorem dJ6_stringSize_0f7a4_39 : decode cJ6_stringSize_0f7a4 39 = .ok (.goto (-23), 3) := by decide +kernel
theorem dJ6_stringSize_0f7a4_42 : decode cJ6_stringSize_0f7a4 42 = .ok (.bipush 10, 2) := by decide +kernel
theorem dJ6_stringSize_0f7a4_44 : decode cJ6_stringSize_0f7a4 44 = .ok (.iload_n 1, 1) := by decide +kernel
theorem dJ6_stringSize_0f7a4_45 : decode cJ6_stringSize_0f7a4 45 = .ok (.iadd, 1) := by decide +kernel
theorem dJ6_stringSize_0f7a4_46 : decode cJ6_stringSize_0f7a4 46 = .ok (.ireturn, 1) := by decide +kernel
theorem dJ9_abs_067f4_0 : decode cJ9_abs_067f4 0 = .ok (.lload_n 0, 1) := by decide +kernel
theorem dJ9_abs_067f4_1 : decode cJ9_abs_067f4 1 = .ok (.lconst 0, 1) := by decide +kernel
theorem dJ9_abs_067f4_2 : decode cJ9_abs_067f4 2 = .ok (.lcmp, 1) := by decide +kernel
theorem dJ9_abs_067f4_3 : decode cJ9_abs_067f4 3 = .ok (.ifCond .ge 8, 3) := by decide +kernel
theorem dJ9_abs_067f4_6 : decode cJ9_abs_067f4 6 = .ok (.lload_n 0, 1) := by decide +kernel
theorem dJ9_abs_067f4_7 : decode cJ9_abs_067f4 7 = .ok (.lneg, 1) := by decide +kernel
theorem dJ9_abs_067f4_8 : decode cJ9_abs_067f4 8 = .ok (.goto 4, 3) := by decide +kernel
theorem dJ9_abs_067f4_11 : decode cJ9_abs_067f4 11 = .ok (.lload_n 0, 1) := by decide +kernel
theorem dJ9_abs_067f4_12 : decode cJ9_abs_067f4 12 = .ok (.lreturn, 1) := by decide +kernel
theorem dJ9_max_7cf53_0 : decode cJ9_max_7cf53 0 = .ok (.iload_n 0, 1) := by decide +kernel
theorem dJ9_max_7cf53_1 : decode cJ9_max_7cf53 1 = .ok (.iload_n 1, 1) := by decide +kernel
theorem dJ9_max_7cf53_2 : decode cJ9_max_7cf53 2 = .ok (.if_icmp .lt 7, 3) := by decide +kernel
theorem dJ9_max_7cf53_5 : decode cJ9_max_7cf53 5 = .ok (.iload_n 0, 1) := by decide +kernel
theorem dJ9_max_7cf53_6 : decode cJ9_max_7cf53 6 = .ok (.goto 4, 3) := by decide +kernel
theorem dJ9_max_7cf53_9 : decode cJ9_max_7cf53 9 = .ok (.iload_n 1, 1) := by decide +kernel
theorem dJ9_max_7cf53_10 : decode cJ9_max_7cf53 10 = .ok (.ireturn, 1) := by decide +kernel
theorem dJ9_max_f86c9_0 : decode cJ9_max_f86c9 0 = .ok (.lload_n 0, 1) := by decide +kernel
theorem dJ9_max_f86c9_1 : decode cJ9_max_f86c9 1 = .ok (.lload_n 2, 1) := by decide +kernel
theorem dJ9_max_f86c9_2 : decode cJ9_max_f86c9 2 = .ok (.lcmp, 1) := by decide +kernel
theorem dJ9_max_f86c9_3 : decode cJ9_max_f86c9 3 = .ok (.ifCond .lt 7, 3) := by decide +kernel
theorem dJ9_max_f86c9_6 : decode cJ9_max_f86c9 6 = .ok (.lload_n 0, 1) := by decide +kernel
theorem dJ9_max_f86c9_7 : decode cJ9_max_f86c9 7 = .ok (.goto 4, 3) := by decide +kernel
theorem dJ9_max_f86c9_10 : decode cJ9_max_f86c9 10 = .ok (.lload_n 2, 1) := by decide +kernel
theorem dJ9_max_f86c9_11 : decode cJ9_max_f86c9 11 = .ok (.lreturn, 1) := by decide +kernel
theorem dJ9_min_7cf53_0 : decode cJ9_min_7cf53 0 = .ok (.iload_n 0, 1) := by decide +kernel
theorem dJ9_min_7cf53_1 : decode cJ9_min_7cf53 1 = .ok (.iload_n 1, 1) := by decide +kernel
theorem dJ9_min_7cf53_2 : decode cJ9_min_7cf53 2 = .ok (.if_icmp .gt 7, 3) := by decide +kernel
theorem dJ9_min_7cf53_5 : decode cJ9_min_7cf53 5 = .ok (.iload_n 0, 1) := by decide +kernel
theorem dJ9_min_7cf53_6 : decode cJ9_min_7cf53 6 = .ok (.goto 4, 3) := by decide +kernel
theorem dJ9_min_7cf53_9 : decode cJ9_min_7cf53 9 = .ok (.iload_n 1, 1) := by decide +kernel
theorem dJ9_min_7cf53_10 : decode cJ9_min_7cf53 10 = .ok (.ireturn, 1) := by decide +kernel
theorem dJ0_init_81219_0 : decode cJ0_init_81219 0 = .ok (.aload_n 0, 1) := by decide +kernel
theorem dJ0_init_81219_1 : decode cJ0_init_81219 1 = .ok (.aload_n 1, 1) := by decide +kernel
theorem dJ0_init_81219_2 : decode cJ0_init_81219 2 = .ok (.aconst_null, 1) := by decide +kernel
theorem dJ0_init_81219_3 : decode cJ0_init_81219 3 = .ok (.invokespecial 489, 3) := by decide +kernel
theorem dJ0_init_81219_6 : decode cJ0_init_81219 6 = .ok (.return_, 1) := by decide +kernel
theorem dJ0_length_8abf5_0 : decode cJ0_length_8abf5 0 = .ok (.aload_n 0, 1) := by decide +kernel
theorem dJ0_length_8abf5_1 : decode cJ0_length_8abf5 1 = .ok (.getfield 9, 3) := by decide +kernel
theorem dJ0_length_8abf5_4 : decode cJ0_length_8abf5 4 = .ok (.arraylength, 1) := by decide +kernel
theorem dJ0_length_8abf5_5 : decode cJ0_length_8abf5 5 = .ok (.aload_n 0, 1) := by decide +kernel
theorem dJ0_length_8abf5_6 : decode cJ0_length_8abf5 6 = .ok (.invokevirtual 335, 3) := by decide +kernel
theorem dJ0_length_8abf5_9 : decode cJ0_length_8abf5 9 = .ok (.ishr, 1) := by decide +kernel
theorem dJ0_length_8abf5_10 : decode cJ0_length_8abf5 10 = .ok (.ireturn, 1) := by decide +kernel
theorem dJ0_charAt_5068e_0 : decode cJ0_charAt_5068e 0 = .ok (.aload_n 0, 1) := by decide +kernel
theorem dJ0_charAt_5068e_1 : decode cJ0_charAt_5068e 1 = .ok (.invokevirtual 492, 3) := by decide +kernel
theorem dJ0_charAt_5068e_4 : decode cJ0_charAt_5068e 4 = .ok (.ifCond .eq 12, 3) := by decide +kernel
theorem dJ0_charAt_5068e_7 : decode cJ0_charAt_5068e 7 = .ok (.aload_n 0, 1) := by decide +kernel
theorem dJ0_charAt_5068e_8 : decode cJ0_charAt_5068e 8 = .ok (.getfield 9, 3) := by decide +kernel
theorem dJ0_charAt_5068e_11 : decode cJ0_charAt_5068e 11 = .ok (.iload_n 1, 1) := by decide +kernel
theorem dJ0_charAt_5068e_12 : decode cJ0_charAt_5068e 12 = .ok (.invokestatic 495, 3) := by decide +kernel
theorem dJ0_charAt_5068e_15 : decode cJ0_charAt_5068e 15 = .ok (.ireturn, 1) := by decide +kernel
theorem dJ0_charAt_5068e_16 : decode cJ0_charAt_5068e 16 = .ok (.aload_n 0, 1) := by decide +kernel
theorem dJ0_charAt_5068e_17 : decode cJ0_charAt_5068e 17 = .ok (.getfield 9, 3) := by decide +kernel
theorem dJ0_charAt_5068e_20 : decode cJ0_charAt_5068e 20 = .ok (.iload_n 1, 1) := by decide +kernel
theorem dJ0_charAt_5068e_21 : decode cJ0_charAt_5068e 21 = .ok (.invokestatic 498, 3) := by decide +kernel
theorem dJ0_charAt_5068e_24 : decode cJ0_charAt_5068e 24 = .ok (.ireturn, 1) := by decide +kernel
theorem dJ0_indexOf_0f7a4_0 : decode cJ0_indexOf_0f7a4 0 = .ok (.aload_n 0, 1) := by decide +kernel
theorem dJ0_indexOf_0f7a4_1 : decode cJ0_indexOf_0f7a4 1 = .ok (.iload_n 1, 1) := by decide +kernel
theorem dJ0_indexOf_0f7a4_2 : decode cJ0_indexOf_0f7a4 2 = .ok (.iconst 0, 1) := by decide +kernel
theorem dJ0_indexOf_0f7a4_3 : decode cJ0_indexOf_0f7a4 3 = .ok (.invokevirtual 633, 3) := by decide +kernel
theorem dJ0_indexOf_0f7a4_6 : decode cJ0_indexOf_0f7a4 6 = .ok (.ireturn, 1) := by decide +kernel
theorem dJ0_indexOf_7cf53_0 : decode cJ0_indexOf_7cf53 0 = .ok (.aload_n 0, 1) := by decide +kernel
theorem dJ0_indexOf_7cf53_1 : decode cJ0_indexOf_7cf53 1 = .ok (.invokevirtual 492, 3) := by decide +kernel
theorem dJ0_indexOf_7cf53_4 : decode cJ0_indexOf_7cf53 4 = .ok (.ifCond .eq 19, 3) := by decide +kernel
theorem dJ0_indexOf_7cf53_7 : decode cJ0_indexOf_7cf53 7 = .ok (.aload_n 0, 1) := by decide +kernel
theorem dJ0_indexOf_7cf53_8 : decode cJ0_indexOf_7cf53 8 = .ok (.getfield 9, 3) := by decide +kernel
theorem dJ0_indexOf_7cf53_11 : decode cJ0_indexOf_7cf53 11 = .ok (.iload_n 1, 1) := by decide +kernel
theorem dJ0_indexOf_7cf53_12 : decode cJ0_indexOf_7cf53 12 = .ok (.iload_n 2, 1) := by decide +kernel
theorem dJ0_indexOf_7cf53_13 : decode cJ0_indexOf_7cf53 13 = .ok (.aload_n 0, 1) := by decide +kernel
theorem dJ0_indexOf_7cf53_14 : decode cJ0_indexOf_7cf53 14 = .ok (.invokevirtual 505, 3) := by decide +kernel
theorem dJ0_indexOf_7cf53_17 : decode cJ0_indexOf_7cf53 17 = .ok (.invokestatic 637, 3) := by decide +kernel
theorem dJ0_indexOf_7cf53_20 : decode cJ0_indexOf_7cf53 20 = .ok (.goto 16, 3) := by decide +kernel
theorem dJ0_indexOf_7cf53_23 : decode cJ0_indexOf_7cf53 23 = .ok (.aload_n 0, 1) := by decide +kernel
theorem dJ0_indexOf_7cf53_24 : decode cJ0_indexOf_7cf53 24 = .ok (.getfield 9, 3) := by decide +kernel
theorem dJ0_indexOf_7cf53_27 : decode cJ0_indexOf_7cf53 27 = .ok (.iload_n 1, 1) := by decide +kernel
theorem dJ0_indexOf_7cf53_28 : decode cJ0_indexOf_7cf53 28 = .ok (.iload_n 2, 1) := by decide +kernel
theorem dJ0_indexOf_7cf53_29 : decode cJ0_indexOf_7cf53 29 = .ok (.aload_n 0, 1) := by decide +kernel
theorem dJ0_indexOf_7cf53_30 : decode cJ0_indexOf_7cf53 30 = .ok (.invokevirtual 505, 3) := by decide +kernel
theorem dJ0_indexOf_7cf53_33 : decode cJ0_indexOf_7cf53 33 = .ok (.invokestatic 640, 3) := by decide +kernel
theorem dJ0_indexOf_7cf53_36 : decode cJ0_indexOf_7cf53 36 = .ok (.ireturn, 1) := by decide +kernel
theorem dJ0_getBytes_840e7_0 : decode cJ0_getBytes_840e7 0 = .ok (.aload_n 0, 1) := by decide +kernel
theorem dJ0_getBytes_840e7_1 : decode cJ0_getBytes_840e7 1 = .ok (.invokevirtual 335, 3) := by decide +kernel
theorem dJ0_getBytes_840e7_4 : decode cJ0_getBytes_840e7 4 = .ok (.iload_n 3, 1) := by decide +kernel
theorem dJ0_getBytes_840e7_5 : decode cJ0_getBytes_840e7 5 = .ok (.if_icmp .ne 23, 3) := by decide +kernel
theorem dJ0_getBytes_840e7_8 : decode cJ0_getBytes_840e7 8 = .ok (.aload_n 0, 1) := by decide +kernel
theorem dJ0_getBytes_840e7_9 : decode cJ0_getBytes_840e7 9 = .ok (.getfield 9, 3) := by decide +kernel
theorem dJ0_getBytes_840e7_12 : decode cJ0_getBytes_840e7 12 = .ok (.iconst 0, 1) := by decide +kernel
theorem dJ0_getBytes_840e7_13 : decode cJ0_getBytes_840e7 13 = .ok (.aload_n 1, 1) := by decide +kernel
theorem dJ0_getBytes_840e7_14 : decode cJ0_getBytes_840e7 14 = .ok (.iload_n 2, 1) := by decide +kernel
theorem dJ0_getBytes_840e7_15 : decode cJ0_getBytes_840e7 15 = .ok (.iload_n 3, 1) := by decide +kernel
theorem dJ0_getBytes_840e7_16 : decode cJ0_getBytes_840e7 16 = .ok (.ishl, 1) := by decide +kernel
theorem dJ0_getBytes_840e7_17 : decode cJ0_getBytes_840e7 17 = .ok (.aload_n 0, 1) := by decide +kernel
theorem dJ0_getBytes_840e7_18 : decode cJ0_getBytes_840e7 18 = .ok (.getfield 9, 3) := by decide +kernel
theorem dJ0_getBytes_840e7_21 : decode cJ0_getBytes_840e7 21 = .ok (.arraylength, 1) := by decide +kernel
theorem dJ0_getBytes_840e7_22 : decode cJ0_getBytes_840e7 22 = .ok (.invokestatic 212, 3) := by decide +kernel
theorem dJ0_getBytes_840e7_25 : decode cJ0_getBytes_840e7 25 = .ok (.goto 18, 3) := by decide +kernel
theorem dJ0_getBytes_840e7_28 : decode cJ0_getBytes_840e7 28 = .ok (.aload_n 0, 1) := by decide +kernel
theorem dJ0_getBytes_840e7_29 : decode cJ0_getBytes_840e7 29 = .ok (.getfield 9, 3) := by decide +kernel
theorem dJ0_getBytes_840e7_32 : decode cJ0_getBytes_840e7 32 = .ok (.iconst 0, 1) := by decide +kernel
theorem dJ0_getBytes_840e7_33 : decode cJ0_getBytes_840e7 33 = .ok (.aload_n 1, 1) := by decide +kernel
theorem dJ0_getBytes_840e7_34 : decode cJ0_getBytes_840e7 34 = .ok (.iload_n 2, 1) := by decide +kernel
theorem dJ0_getBytes_840e7_35 : decode cJ0_getBytes_840e7 35 = .ok (.aload_n 0, 1) := by decide +kernel
theorem dJ0_getBytes_840e7_36 : decode cJ0_getBytes_840e7 36 = .ok (.getfield 9, 3) := by decide +kernel
theorem dJ0_getBytes_840e7_39 : decode cJ0_getBytes_840e7 39 = .ok (.arraylength, 1) := by decide +kernel
theorem dJ0_getBytes_840e7_40 : decode cJ0_getBytes_840e7 40 = .ok (.invokestatic 106, 3) := by decide +kernel
theorem dJ0_getBytes_840e7_43 : decode cJ0_getBytes_840e7 43 = .ok (.return_, 1) := by decide +kernel
theorem dJ0_init_db425_0 : decode cJ0_init_db425 0 = .ok (.aload_n 0, 1) := by decide +kernel
theorem dJ0_init_db425_1 : decode cJ0_init_db425 1 = .ok (.invokespecial 1, 3) := by decide +kernel
theorem dJ0_init_db425_4 : decode cJ0_init_db425 4 = .ok (.aload_n 1, 1) := by decide +kernel
theorem dJ0_init_db425_5 : decode cJ0_init_db425 5 = .ok (.invokevirtual 552, 3) := by decide +kernel
theorem dJ0_init_db425_8 : decode cJ0_init_db425 8 = .ok (.astore_n 3, 1) := by decide +kernel
theorem dJ0_init_db425_9 : decode cJ0_init_db425 9 = .ok (.aload_n 1, 1) := by decide +kernel
theorem dJ0_init_db425_10 : decode cJ0_init_db425 10 = .ok (.invokevirtual 549, 3) := by decide +kernel
theorem dJ0_init_db425_13 : decode cJ0_init_db425 13 = .ok (.istore 4, 2) := by decide +kernel
theorem dJ0_init_db425_15 : decode cJ0_init_db425 15 = .ok (.aload_n 1, 1) := by decide +kernel
theorem dJ0_init_db425_16 : decode cJ0_init_db425 16 = .ok (.invokevirtual 1047, 3) := by decide +kernel
theorem dJ0_init_db425_19 : decode cJ0_init_db425 19 = .ok (.ifCond .eq 22, 3) := by decide +kernel
theorem dJ0_init_db425_22 : decode cJ0_init_db425 22 = .ok (.aload_n 0, 1) := by decide +kernel
theorem dJ0_init_db425_23 : decode cJ0_init_db425 23 = .ok (.iconst 0, 1) := by decide +kernel
theorem dJ0_init_db425_24 : decode cJ0_init_db425 24 = .ok (.putfield 15, 3) := by decide +kernel
theorem dJ0_init_db425_27 : decode cJ0_init_db425 27 = .ok (.aload_n 0, 1) := by decide +kernel
theorem dJ0_init_db425_28 : decode cJ0_init_db425 28 = .ok (.aload_n 3, 1) := by decide +kernel
theorem dJ0_init_db425_29 : decode cJ0_init_db425 29 = .ok (.iconst 0, 1) := by decide +kernel
theorem dJ0_init_db425_30 : decode cJ0_init_db425 30 = .ok (.iload 4, 2) := by decide +kernel
theorem dJ0_init_db425_32 : decode cJ0_init_db425 32 = .ok (.invokestatic 54, 3) := by decide +kernel
theorem dJ0_init_db425_35 : decode cJ0_init_db425 35 = .ok (.putfield 9, 3) := by decide +kernel
theorem dJ0_init_db425_38 : decode cJ0_init_db425 38 = .ok (.goto 59, 3) := by decide +kernel
theorem dJ0_init_db425_41 : decode cJ0_init_db425 41 = .ok (.getstatic 38, 3) := by decide +kernel
theorem dJ0_init_db425_44 : decode cJ0_init_db425 44 = .ok (.ifCond .eq 35, 3) := by decide +kernel
theorem dJ0_init_db425_47 : decode cJ0_init_db425 47 = .ok (.aload_n 1, 1) := by decide +kernel
theorem dJ0_init_db425_48 : decode cJ0_init_db425 48 = .ok (.getfield 1048, 3) := by decide +kernel
theorem dJ0_init_db425_51 : decode cJ0_init_db425 51 = .ok (.ifCond .eq 28, 3) := by decide +kernel
theorem dJ0_init_db425_54 : decode cJ0_init_db425 54 = .ok (.aload_n 0, 1) := by decide +kernel
theorem dJ0_init_db425_55 : decode cJ0_init_db425 55 = .ok (.aload_n 3, 1) := by decide +kernel
theorem dJ0_init_db425_56 : decode cJ0_init_db425 56 = .ok (.iconst 0, 1) := by decide +kernel
theorem dJ0_init_db425_57 : decode cJ0_init_db425 57 = .ok (.iload 4, 2) := by decide +kernel
theorem dJ0_init_db425_59 : decode cJ0_init_db425 59 = .ok (.invokestatic 1051, 3) := by decide +kernel
theorem dJ0_init_db425_62 : decode cJ0_init_db425 62 = .ok (.putfield 9, 3) := by decide +kernel
theorem dJ0_init_db425_65 : decode cJ0_init_db425 65 = .ok (.aload_n 0, 1) := by decide +kernel
theorem dJ0_init_db425_66 : decode cJ0_init_db425 66 = .ok (.aload_n 0, 1) := by decide +kernel
theorem dJ0_init_db425_67 : decode cJ0_init_db425 67 = .ok (.getfield 9, 3) := by decide +kernel
theorem dJ0_init_db425_70 : decode cJ0_init_db425 70 = .ok (.iload 4, 2) := by decide +kernel
theorem dJ0_init_db425_72 : decode cJ0_init_db425 72 = .ok (.invokestatic 47, 3) := by decide +kernel
theorem dJ0_init_db425_75 : decode cJ0_init_db425 75 = .ok (.putfield 15, 3) := by decide +kernel
theorem dJ0_init_db425_78 : decode cJ0_init_db425 78 = .ok (.return_, 1) := by decide +kernel
theorem dJ0_init_db425_79 : decode cJ0_init_db425 79 = .ok (.aload_n 0, 1) := by decide +kernel
theorem dJ0_init_db425_80 : decode cJ0_init_db425 80 = .ok (.iconst 1, 1) := by decide +kernel
theorem dJ0_init_db425_81 : decode cJ0_init_db425 81 = .ok (.putfield 15, 3) := by decide +kernel
theorem dJ0_init_db425_84 : decode cJ0_init_db425 84 = .ok (.aload_n 0, 1) := by decide +kernel
theorem dJ0_init_db425_85 : decode cJ0_init_db425 85 = .ok (.aload_n 3, 1) := by decide +kernel
theorem dJ0_init_db425_86 : decode cJ0_init_db425 86 = .ok (.iconst 0, 1) := by decide +kernel
theorem dJ0_init_db425_87 : decode cJ0_init_db425 87 = .ok (.iload 4, 2) := by decide +kernel
theorem dJ0_init_db425_89 : decode cJ0_init_db425 89 = .ok (.iconst 1, 1) := by decide +kernel
theorem dJ0_init_db425_90 : decode cJ0_init_db425 90 = .ok (.ishl, 1) := by decide +kernel
theorem dJ0_init_db425_91 : decode cJ0_init_db425 91 = .ok (.invokestatic 54, 3) := by decide +kernel
theorem dJ0_init_db425_94 : decode cJ0_init_db425 94 = .ok (.putfield 9, 3) := by decide +kernel
theorem dJ0_init_db425_97 : decode cJ0_init_db425 97 = .ok (.return_, 1) := by decide +kernel
theorem dJ0_coder_7d493_0 : decode cJ0_coder_7d493 0 = .ok (.getstatic 38, 3) := by decide +kernel
theorem dJ0_coder_7d493_3 : decode cJ0_coder_7d493 3 = .ok (.ifCond .eq 10, 3) := by decide +kernel
theorem dJ0_coder_7d493_6 : decode cJ0_coder_7d493 6 = .ok (.aload_n 0, 1) := by decide +kernel
theorem dJ0_coder_7d493_7 : decode cJ0_coder_7d493 7 = .ok (.getfield 15, 3) := by decide +kernel
theorem dJ0_coder_7d493_10 : decode cJ0_coder_7d493 10 = .ok (.goto 4, 3) := by decide +kernel
theorem dJ0_coder_7d493_13 : decode cJ0_coder_7d493 13 = .ok (.iconst 1, 1) := by decide +kernel
theorem dJ0_coder_7d493_14 : decode cJ0_coder_7d493 14 = .ok (.ireturn, 1) := by decide +kernel
theorem dJ0_isLatin1_aae02_0 : decode cJ0_isLatin1_aae02 0 = .ok (.getstatic 38, 3) := by decide +kernel
theorem dJ0_isLatin1_aae02_3 : decode cJ0_isLatin1_aae02 3 = .ok (.ifCond .eq 14, 3) := by decide +kernel
theorem dJ0_isLatin1_aae02_6 : decode cJ0_isLatin1_aae02 6 = .ok (.aload_n 0, 1) := by decide +kernel
theorem dJ0_isLatin1_aae02_7 : decode cJ0_isLatin1_aae02 7 = .ok (.getfield 15, 3) := by decide +kernel
theorem dJ0_isLatin1_aae02_10 : decode cJ0_isLatin1_aae02 10 = .ok (.ifCond .ne 7, 3) := by decide +kernel
theorem dJ0_isLatin1_aae02_13 : decode cJ0_isLatin1_aae02 13 = .ok (.iconst 1, 1) := by decide +kernel
theorem dJ0_isLatin1_aae02_14 : decode cJ0_isLatin1_aae02 14 = .ok (.goto 4, 3) := by decide +kernel
theorem dJ0_isLatin1_aae02_17 : decode cJ0_isLatin1_aae02 17 = .ok (.iconst 0, 1) := by decide +kernel
theorem dJ0_isLatin1_aae02_18 : decode cJ0_isLatin1_aae02 18 = .ok (.ireturn, 1) := by decide +kernel
theorem dJ0_checkIndex_df160_0 : decode cJ0_checkIndex_df160 0 = .ok (.iload_n 0, 1) := by decide +kernel
theorem dJ0_checkIndex_df160_1 : decode cJ0_checkIndex_df160 1 = .ok (.iload_n 1, 1) := by decide +kernel
theorem dJ0_checkIndex_df160_2 : decode cJ0_checkIndex_df160 2 = .ok (.getstatic 1053, 3) := by decide +kernel
theorem dJ0_checkIndex_df160_5 : decode cJ0_checkIndex_df160 5 = .ok (.invokestatic 1059, 3) := by decide +kernel
theorem dJ0_checkIndex_df160_8 : decode cJ0_checkIndex_df160 8 = .ok (.pop, 1) := by decide +kernel
theorem dJ0_checkIndex_df160_9 : decode cJ0_checkIndex_df160 9 = .ok (.return_, 1) := by decide +kernel
theorem dJ0_checkBoundsOffCount_cabcc_0 : decode cJ0_checkBoundsOffCount_cabcc 0 = .ok (.iload_n 0, 1) := by decide +kernel
theorem dJ0_checkBoundsOffCount_cabcc_1 : decode cJ0_checkBoundsOffCount_cabcc 1 = .ok (.iload_n 1, 1) := by decide +kernel
theorem dJ0_checkBoundsOffCount_cabcc_2 : decode cJ0_checkBoundsOffCount_cabcc 2 = .ok (.iload_n 2, 1) := by decide +kernel
theorem dJ0_checkBoundsOffCount_cabcc_3 : decode cJ0_checkBoundsOffCount_cabcc 3 = .ok (.getstatic 1053, 3) := by decide +kernel
theorem dJ0_checkBoundsOffCount_cabcc_6 : decode cJ0_checkBoundsOffCount_cabcc 6 = .ok (.invokestatic 1065, 3) := by decide +kernel
theorem dJ0_checkBoundsOffCount_cabcc_9 : decode cJ0_checkBoundsOffCount_cabcc 9 = .ok (.ireturn, 1) := by decide +kernel
theorem dJ0_checkBoundsBeginEnd_23922_0 : decode cJ0_checkBoundsBeginEnd_23922 0 = .ok (.iload_n 0, 1) := by decide +kernel
theorem dJ0_checkBoundsBeginEnd_23922_1 : decode cJ0_checkBoundsBeginEnd_23922 1 = .ok (.iload_n 1, 1) := by decide +kernel
theorem dJ0_checkBoundsBeginEnd_23922_2 : decode cJ0_checkBoundsBeginEnd_23922 2 = .ok (.iload_n 2, 1) := by decide +kernel
theorem dJ0_checkBoundsBeginEnd_23922_3 : decode cJ0_checkBoundsBeginEnd_23922 3 = .ok (.getstatic 1053, 3) := by decide +kernel
theorem dJ0_checkBoundsBeginEnd_23922_6 : decode cJ0_checkBoundsBeginEnd_23922 6 = .ok (.invokestatic 1062, 3) := by decide +kernel
theorem dJ0_checkBoundsBeginEnd_23922_9 : decode cJ0_checkBoundsBeginEnd_23922 9 = .ok (.pop, 1) := by decide +kernel
theorem dJ0_checkBoundsBeginEnd_23922_10 : decode cJ0_checkBoundsBeginEnd_23922 10 = .ok (.return_, 1) := by decide +kernel
theorem dJ4_init_da8c8_0 : decode cJ4_init_da8c8 0 = .ok (.aload_n 0, 1) := by decide +kernel
theorem dJ4_init_da8c8_1 : decode cJ4_init_da8c8 1 = .ok (.bipush 16, 2) := by decide +kernel
theorem dJ4_init_da8c8_3 : decode cJ4_init_da8c8 3 = .ok (.invokespecial 1, 3) := by decide +kernel
theorem dJ4_init_da8c8_6 : decode cJ4_init_da8c8 6 = .ok (.return_, 1) := by decide +kernel
theorem dJ4_append_15ec4_0 : decode cJ4_append_15ec4 0 = .ok (.aload_n 0, 1) := by decide +kernel
theorem dJ4_append_15ec4_1 : decode cJ4_append_15ec4 1 = .ok (.aload_n 1, 1) := by decide +kernel
theorem dJ4_append_15ec4_2 : decode cJ4_append_15ec4 2 = .ok (.invokespecial 29, 3) := by decide +kernel
theorem dJ4_append_15ec4_5 : decode cJ4_append_15ec4 5 = .ok (.pop, 1) := by decide +kernel
theorem dJ4_append_15ec4_6 : decode cJ4_append_15ec4 6 = .ok (.aload_n 0, 1) := by decide +kernel
theorem dJ4_append_15ec4_7 : decode cJ4_append_15ec4 7 = .ok (.areturn, 1) := by decide +kernel
theorem dJ4_append_bf812_0 : decode cJ4_append_bf812 0 = .ok (.aload_n 0, 1) := by decide +kernel
theorem dJ4_append_bf812_1 : decode cJ4_append_bf812 1 = .ok (.iload_n 1, 1) := by decide +kernel
theorem dJ4_append_bf812_2 : decode cJ4_append_bf812 2 = .ok (.invokespecial 53, 3) := by decide +kernel
theorem dJ4_append_bf812_5 : decode cJ4_append_bf812 5 = .ok (.pop, 1) := by decide +kernel
theorem dJ4_append_bf812_6 : decode cJ4_append_bf812 6 = .ok (.aload_n 0, 1) := by decide +kernel
theorem dJ4_append_bf812_7 : decode cJ4_append_bf812 7 = .ok (.areturn, 1) := by decide +kernel
theorem dJ4_toString_0e30d_0 : decode cJ4_toString_0e30d 0 = .ok (.new 18, 3) := by decide +kernel
theorem dJ4_toString_0e30d_3 : decode cJ4_toString_0e30d 3 = .ok (.dup, 1) := by decide +kernel
theorem dJ4_toString_0e30d_4 : decode cJ4_toString_0e30d 4 = .ok (.aload_n 0, 1) := by decide +kernel
theorem dJ4_toString_0e30d_5 : decode cJ4_toString_0e30d 5 = .ok (.invokespecial 137, 3) := by decide +kernel
theorem dJ4_toString_0e30d_8 : decode cJ4_toString_0e30d 8 = .ok (.areturn, 1) := by decide +kernel
theorem dJ4_length_8abf5_0 : decode cJ4_length_8abf5 0 = .ok (.aload_n 0, 1) := by decide +kernel
theorem dJ4_length_8abf5_1 : decode cJ4_length_8abf5 1 = .ok (.invokespecial 343, 3) := by decide +kernel
theorem dJ4_length_8abf5_4 : decode cJ4_length_8abf5 4 = .ok (.ireturn, 1) := by decide +kernel
theorem dJ1_charAt_3b067_0 : decode cJ1_charAt_3b067 0 = .ok (.iload_n 1, 1) := by decide +kernel
theorem dJ1_charAt_3b067_1 : decode cJ1_charAt_3b067 1 = .ok (.aload_n 0, 1) := by decide +kernel
theorem dJ1_charAt_3b067_2 : decode cJ1_charAt_3b067 2 = .ok (.arraylength, 1) := by decide +kernel
theorem dJ1_charAt_3b067_3 : decode cJ1_charAt_3b067 3 = .ok (.invokestatic 9, 3) := by decide +kernel
theorem dJ1_charAt_3b067_6 : decode cJ1_charAt_3b067 6 = .ok (.aload_n 0, 1) := by decide +kernel
theorem dJ1_charAt_3b067_7 : decode cJ1_charAt_3b067 7 = .ok (.iload_n 1, 1) := by decide +kernel
theorem dJ1_charAt_3b067_8 : decode cJ1_charAt_3b067 8 = .ok (.baload, 1) := by decide +kernel
theorem dJ1_charAt_3b067_9 : decode cJ1_charAt_3b067 9 = .ok (.sipush 255, 3) := by decide +kernel
theorem dJ1_charAt_3b067_12 : decode cJ1_charAt_3b067 12 = .ok (.iand, 1) := by decide +kernel
theorem dJ1_charAt_3b067_13 : decode cJ1_charAt_3b067 13 = .ok (.i2c, 1) := by decide +kernel
theorem dJ1_charAt_3b067_14 : decode cJ1_charAt_3b067 14 = .ok (.ireturn, 1) := by decide +kernel
theorem dJ1_canEncode_9a6ad_0 : decode cJ1_canEncode_9a6ad 0 = .ok (.iload_n 0, 1) := by decide +kernel
theorem dJ1_canEncode_9a6ad_1 : decode cJ1_canEncode_9a6ad 1 = .ok (.ifCond .lt 14, 3) := by decide +kernel
theorem dJ1_canEncode_9a6ad_4 : decode cJ1_canEncode_9a6ad 4 = .ok (.iload_n 0, 1) := by decide +kernel
theorem dJ1_canEncode_9a6ad_5 : decode cJ1_canEncode_9a6ad 5 = .ok (.sipush 255, 3) := by decide +kernel
theorem dJ1_canEncode_9a6ad_8 : decode cJ1_canEncode_9a6ad 8 = .ok (.if_icmp .gt 7, 3) := by decide +kernel
theorem dJ1_canEncode_9a6ad_11 : decode cJ1_canEncode_9a6ad 11 = .ok (.iconst 1, 1) := by decide +kernel
theorem dJ1_canEncode_9a6ad_12 : decode cJ1_canEncode_9a6ad 12 = .ok (.goto 4, 3) := by decide +kernel
theorem dJ1_canEncode_9a6ad_15 : decode cJ1_canEncode_9a6ad 15 = .ok (.iconst 0, 1) := by decide +kernel
theorem dJ1_canEncode_9a6ad_16 : decode cJ1_canEncode_9a6ad 16 = .ok (.ireturn, 1) := by decide +kernel
theorem dJ1_indexOf_4cfef_0 : decode cJ1_indexOf_4cfef 0 = .ok (.iload_n 1, 1) := by decide +kernel
theorem dJ1_indexOf_4cfef_1 : decode cJ1_indexOf_4cfef 1 = .ok (.invokestatic 88, 3) := by decide +kernel
theorem dJ1_indexOf_4cfef_4 : decode cJ1_indexOf_4cfef 4 = .ok (.ifCond .ne 5, 3) := by decide +kernel
theorem dJ1_indexOf_4cfef_7 : decode cJ1_indexOf_4cfef 7 = .ok (.iconst (-1), 1) := by decide +kernel
theorem dJ1_indexOf_4cfef_8 : decode cJ1_indexOf_4cfef 8 = .ok (.ireturn, 1) := by decide +kernel
theorem dJ1_indexOf_4cfef_9 : decode cJ1_indexOf_4cfef 9 = .ok (.iload_n 2, 1) := by decide +kernel
theorem dJ1_indexOf_4cfef_10 : decode cJ1_indexOf_4cfef 10 = .ok (.iconst 0, 1) := by decide +kernel
theorem dJ1_indexOf_4cfef_11 : decode cJ1_indexOf_4cfef 11 = .ok (.invokestatic 92, 3) := by decide +kernel
theorem dJ1_indexOf_4cfef_14 : decode cJ1_indexOf_4cfef 14 = .ok (.istore_n 2, 1) := by decide +kernel
theorem dJ1_indexOf_4cfef_15 : decode cJ1_indexOf_4cfef 15 = .ok (.iload_n 3, 1) := by decide +kernel
theorem dJ1_indexOf_4cfef_16 : decode cJ1_indexOf_4cfef 16 = .ok (.aload_n 0, 1) := by decide +kernel
theorem dJ1_indexOf_4cfef_17 : decode cJ1_indexOf_4cfef 17 = .ok (.arraylength, 1) := by decide +kernel
theorem dJ1_indexOf_4cfef_18 : decode cJ1_indexOf_4cfef 18 = .ok (.invokestatic 38, 3) := by decide +kernel
theorem dJ1_indexOf_4cfef_21 : decode cJ1_indexOf_4cfef 21 = .ok (.istore_n 3, 1) := by decide +kernel
theorem dJ1_indexOf_4cfef_22 : decode cJ1_indexOf_4cfef 22 = .ok (.iload_n 2, 1) := by decide +kernel
theorem dJ1_indexOf_4cfef_23 : decode cJ1_indexOf_4cfef 23 = .ok (.iload_n 3, 1) := by decide +kernel
theorem dJ1_indexOf_4cfef_24 : decode cJ1_indexOf_4cfef 24 = .ok (.if_icmp .lt 5, 3) := by decide +kernel
theorem dJ1_indexOf_4cfef_27 : decode cJ1_indexOf_4cfef 27 = .ok (.iconst (-1), 1) := by decide +kernel
theorem dJ1_indexOf_4cfef_28 : decode cJ1_indexOf_4cfef 28 = .ok (.ireturn, 1) := by decide +kernel
theorem dJ1_indexOf_4cfef_29 : decode cJ1_indexOf_4cfef 29 = .ok (.aload_n 0, 1) := by decide +kernel
theorem dJ1_indexOf_4cfef_30 : decode cJ1_indexOf_4cfef 30 = .ok (.iload_n 1, 1) := by decide +kernel
theorem dJ1_indexOf_4cfef_31 : decode cJ1_indexOf_4cfef 31 = .ok (.iload_n 2, 1) := by decide +kernel
theorem dJ1_indexOf_4cfef_32 : decode cJ1_indexOf_4cfef 32 = .ok (.iload_n 3, 1) := by decide +kernel
theorem dJ1_indexOf_4cfef_33 : decode cJ1_indexOf_4cfef 33 = .ok (.invokestatic 95, 3) := by decide +kernel
theorem dJ1_indexOf_4cfef_36 : decode cJ1_indexOf_4cfef 36 = .ok (.ireturn, 1) := by decide +kernel
theorem dJ1_indexOfChar_4cfef_0 : decode cJ1_indexOfChar_4cfef 0 = .ok (.iload_n 1, 1) := by decide +kernel
theorem dJ1_indexOfChar_4cfef_1 : decode cJ1_indexOfChar_4cfef 1 = .ok (.i2b, 1) := by decide +kernel
theorem dJ1_indexOfChar_4cfef_2 : decode cJ1_indexOfChar_4cfef 2 = .ok (.istore 4, 2) := by decide +kernel
theorem dJ1_indexOfChar_4cfef_4 : decode cJ1_indexOfChar_4cfef 4 = .ok (.iload_n 2, 1) := by decide +kernel
theorem dJ1_indexOfChar_4cfef_5 : decode cJ1_indexOfChar_4cfef 5 = .ok (.istore 5, 2) := by decide +kernel
theorem dJ1_indexOfChar_4cfef_7 : decode cJ1_indexOfChar_4cfef 7 = .ok (.iload 5, 2) := by decide +kernel
theorem dJ1_indexOfChar_4cfef_9 : decode cJ1_indexOfChar_4cfef 9 = .ok (.iload_n 3, 1) := by decide +kernel
theorem dJ1_indexOfChar_4cfef_10 : decode cJ1_indexOfChar_4cfef 10 = .ok (.if_icmp .ge 21, 3) := by decide +kernel
theorem dJ1_indexOfChar_4cfef_13 : decode cJ1_indexOfChar_4cfef 13 = .ok (.aload_n 0, 1) := by decide +kernel
theorem dJ1_indexOfChar_4cfef_14 : decode cJ1_indexOfChar_4cfef 14 = .ok (.iload 5, 2) := by decide +kernel
theorem dJ1_indexOfChar_4cfef_16 : decode cJ1_indexOfChar_4cfef 16 = .ok (.baload, 1) := by decide +kernel
theorem dJ1_indexOfChar_4cfef_17 : decode cJ1_indexOfChar_4cfef 17 = .ok (.iload 4, 2) := by decide +kernel
theorem dJ1_indexOfChar_4cfef_19 : decode cJ1_indexOfChar_4cfef 19 = .ok (.if_icmp .ne 6, 3) := by decide +kernel
theorem dJ1_indexOfChar_4cfef_22 : decode cJ1_indexOfChar_4cfef 22 = .ok (.iload 5, 2) := by decide +kernel
theorem dJ1_indexOfChar_4cfef_24 : decode cJ1_indexOfChar_4cfef 24 = .ok (.ireturn, 1) := by decide +kernel
theorem dJ1_indexOfChar_4cfef_25 : decode cJ1_indexOfChar_4cfef 25 = .ok (.iinc 5 1, 3) := by decide +kernel
theorem dJ1_indexOfChar_4cfef_28 : decode cJ1_indexOfChar_4cfef 28 = .ok (.goto (-21), 3) := by decide +kernel
theorem dJ1_indexOfChar_4cfef_31 : decode cJ1_indexOfChar_4cfef 31 = .ok (.iconst (-1), 1) := by decide +kernel
theorem dJ1_indexOfChar_4cfef_32 : decode cJ1_indexOfChar_4cfef 32 = .ok (.ireturn, 1) := by decide +kernel
theorem dJ1_inflate_0e8fd_0 : decode cJ1_inflate_0e8fd 0 = .ok (.aload_n 0, 1) := by decide +kernel
theorem dJ1_inflate_0e8fd_1 : decode cJ1_inflate_0e8fd 1 = .ok (.iload_n 1, 1) := by decide +kernel
theorem dJ1_inflate_0e8fd_2 : decode cJ1_inflate_0e8fd 2 = .ok (.aload_n 2, 1) := by decide +kernel
theorem dJ1_inflate_0e8fd_3 : decode cJ1_inflate_0e8fd 3 = .ok (.iload_n 3, 1) := by decide +kernel
theorem dJ1_inflate_0e8fd_4 : decode cJ1_inflate_0e8fd 4 = .ok (.iload 4, 2) := by decide +kernel
theorem dJ1_inflate_0e8fd_6 : decode cJ1_inflate_0e8fd 6 = .ok (.invokestatic 240, 3) := by decide +kernel
theorem dJ1_inflate_0e8fd_9 : decode cJ1_inflate_0e8fd 9 = .ok (.return_, 1) := by decide +kernel
theorem dJ2_newBytesFor_77867_0 : decode cJ2_newBytesFor_77867 0 = .ok (.iload_n 0, 1) := by decide +kernel
theorem dJ2_newBytesFor_77867_1 : decode cJ2_newBytesFor_77867 1 = .ok (.invokestatic 11, 3) := by decide +kernel
theorem dJ2_newBytesFor_77867_4 : decode cJ2_newBytesFor_77867 4 = .ok (.newarray .byte, 2) := by decide +kernel
theorem dJ2_newBytesFor_77867_6 : decode cJ2_newBytesFor_77867 6 = .ok (.areturn, 1) := by decide +kernel
theorem dJ2_newBytesLength_0f7a4_0 : decode cJ2_newBytesLength_0f7a4 0 = .ok (.iload_n 0, 1) := by decide +kernel
theorem dJ2_newBytesLength_0f7a4_1 : decode cJ2_newBytesLength_0f7a4 1 = .ok (.ifCond .ge 11, 3) := by decide +kernel
theorem dJ2_newBytesLength_0f7a4_4 : decode cJ2_newBytesLength_0f7a4 4 = .ok (.new 17, 3) := by decide +kernel
theorem dJ2_newBytesLength_0f7a4_7 : decode cJ2_newBytesLength_0f7a4 7 = .ok (.dup, 1) := by decide +kernel
theorem dJ2_newBytesLength_0f7a4_8 : decode cJ2_newBytesLength_0f7a4 8 = .ok (.invokespecial 19, 3) := by decide +kernel
theorem dJ2_newBytesLength_0f7a4_11 : decode cJ2_newBytesLength_0f7a4 11 = .ok (.athrow, 1) := by decide +kernel
theorem dJ2_newBytesLength_0f7a4_12 : decode cJ2_newBytesLength_0f7a4 12 = .ok (.iload_n 0, 1) := by decide +kernel
theorem dJ2_newBytesLength_0f7a4_13 : decode cJ2_newBytesLength_0f7a4 13 = .ok (.ldc 20, 2) := by decide +kernel
theorem dJ2_newBytesLength_0f7a4_15 : decode cJ2_newBytesLength_0f7a4 15 = .ok (.if_icmp .lt 40, 3) := by decide +kernel
theorem dJ2_newBytesLength_0f7a4_18 : decode cJ2_newBytesLength_0f7a4 18 = .ok (.new 21, 3) := by decide +kernel
theorem dJ2_newBytesLength_0f7a4_21 : decode cJ2_newBytesLength_0f7a4 21 = .ok (.dup, 1) := by decide +kernel
theorem dJ2_newBytesLength_0f7a4_22 : decode cJ2_newBytesLength_0f7a4 22 = .ok (.new 23, 3) := by decide +kernel
theorem dJ2_newBytesLength_0f7a4_25 : decode cJ2_newBytesLength_0f7a4 25 = .ok (.dup, 1) := by decide +kernel
theorem dJ2_newBytesLength_0f7a4_26 : decode cJ2_newBytesLength_0f7a4 26 = .ok (.invokespecial 25, 3) := by decide +kernel
theorem dJ2_newBytesLength_0f7a4_29 : decode cJ2_newBytesLength_0f7a4 29 = .ok (.ldc 26, 2) := by decide +kernel
theorem dJ2_newBytesLength_0f7a4_31 : decode cJ2_newBytesLength_0f7a4 31 = .ok (.invokevirtual 28, 3) := by decide +kernel
theorem dJ2_newBytesLength_0f7a4_34 : decode cJ2_newBytesLength_0f7a4 34 = .ok (.iload_n 0, 1) := by decide +kernel
theorem dJ2_newBytesLength_0f7a4_35 : decode cJ2_newBytesLength_0f7a4 35 = .ok (.invokevirtual 32, 3) := by decide +kernel
theorem dJ2_newBytesLength_0f7a4_38 : decode cJ2_newBytesLength_0f7a4 38 = .ok (.ldc 35, 2) := by decide +kernel
theorem dJ2_newBytesLength_0f7a4_40 : decode cJ2_newBytesLength_0f7a4 40 = .ok (.invokevirtual 28, 3) := by decide +kernel
theorem dJ2_newBytesLength_0f7a4_43 : decode cJ2_newBytesLength_0f7a4 43 = .ok (.ldc 20, 2) := by decide +kernel
theorem dJ2_newBytesLength_0f7a4_45 : decode cJ2_newBytesLength_0f7a4 45 = .ok (.invokevirtual 32, 3) := by decide +kernel
theorem dJ2_newBytesLength_0f7a4_48 : decode cJ2_newBytesLength_0f7a4 48 = .ok (.invokevirtual 37, 3) := by decide +kernel
theorem dJ2_newBytesLength_0f7a4_51 : decode cJ2_newBytesLength_0f7a4 51 = .ok (.invokespecial 41, 3) := by decide +kernel
theorem dJ2_newBytesLength_0f7a4_54 : decode cJ2_newBytesLength_0f7a4 54 = .ok (.athrow, 1) := by decide +kernel
theorem dJ2_newBytesLength_0f7a4_55 : decode cJ2_newBytesLength_0f7a4 55 = .ok (.iload_n 0, 1) := by decide +kernel
theorem dJ2_newBytesLength_0f7a4_56 : decode cJ2_newBytesLength_0f7a4 56 = .ok (.iconst 1, 1) := by decide +kernel
theorem dJ2_newBytesLength_0f7a4_57 : decode cJ2_newBytesLength_0f7a4 57 = .ok (.ishl, 1) := by decide +kernel
theorem dJ2_newBytesLength_0f7a4_58 : decode cJ2_newBytesLength_0f7a4 58 = .ok (.ireturn, 1) := by decide +kernel
theorem dJ2_putChar_b72d1_0 : decode cJ2_putChar_b72d1 0 = .ok (.getstatic 44, 3) := by decide +kernel
theorem dJ2_putChar_b72d1_3 : decode cJ2_putChar_b72d1 3 = .ok (.ifCond .ne 25, 3) := by decide +kernel
theorem dJ2_putChar_b72d1_6 : decode cJ2_putChar_b72d1 6 = .ok (.iload_n 1, 1) := by decide +kernel
theorem dJ2_putChar_b72d1_7 : decode cJ2_putChar_b72d1 7 = .ok (.ifCond .lt 11, 3) := by decide +kernel
theorem dJ2_putChar_b72d1_10 : decode cJ2_putChar_b72d1 10 = .ok (.iload_n 1, 1) := by decide +kernel
theorem dJ2_putChar_b72d1_11 : decode cJ2_putChar_b72d1 11 = .ok (.aload_n 0, 1) := by decide +kernel
theorem dJ2_putChar_b72d1_12 : decode cJ2_putChar_b72d1 12 = .ok (.invokestatic 48, 3) := by decide +kernel
theorem dJ2_putChar_b72d1_15 : decode cJ2_putChar_b72d1 15 = .ok (.if_icmp .lt 13, 3) := by decide +kernel
theorem dJ2_putChar_b72d1_18 : decode cJ2_putChar_b72d1 18 = .ok (.new 52, 3) := by decide +kernel
theorem dJ2_putChar_b72d1_21 : decode cJ2_putChar_b72d1 21 = .ok (.dup, 1) := by decide +kernel
theorem dJ2_putChar_b72d1_22 : decode cJ2_putChar_b72d1 22 = .ok (.ldc 54, 2) := by decide +kernel
theorem dJ2_putChar_b72d1_24 : decode cJ2_putChar_b72d1 24 = .ok (.invokespecial 56, 3) := by decide +kernel
theorem dJ2_putChar_b72d1_27 : decode cJ2_putChar_b72d1 27 = .ok (.athrow, 1) := by decide +kernel
theorem dJ2_putChar_b72d1_28 : decode cJ2_putChar_b72d1 28 = .ok (.iload_n 1, 1) := by decide +kernel
theorem dJ2_putChar_b72d1_29 : decode cJ2_putChar_b72d1 29 = .ok (.iconst 1, 1) := by decide +kernel
theorem dJ2_putChar_b72d1_30 : decode cJ2_putChar_b72d1 30 = .ok (.ishl, 1) := by decide +kernel
theorem dJ2_putChar_b72d1_31 : decode cJ2_putChar_b72d1 31 = .ok (.istore_n 1, 1) := by decide +kernel
theorem dJ2_putChar_b72d1_32 : decode cJ2_putChar_b72d1 32 = .ok (.aload_n 0, 1) := by decide +kernel
theorem dJ2_putChar_b72d1_33 : decode cJ2_putChar_b72d1 33 = .ok (.iload_n 1, 1) := by decide +kernel
theorem dJ2_putChar_b72d1_34 : decode cJ2_putChar_b72d1 34 = .ok (.iinc 1 1, 3) := by decide +kernel
theorem dJ2_putChar_b72d1_37 : decode cJ2_putChar_b72d1 37 = .ok (.iload_n 2, 1) := by decide +kernel
theorem dJ2_putChar_b72d1_38 : decode cJ2_putChar_b72d1 38 = .ok (.getstatic 59, 3) := by decide +kernel
theorem dJ2_putChar_b72d1_41 : decode cJ2_putChar_b72d1 41 = .ok (.ishr, 1) := by decide +kernel
theorem dJ2_putChar_b72d1_42 : decode cJ2_putChar_b72d1 42 = .ok (.i2b, 1) := by decide +kernel
theorem dJ2_putChar_b72d1_43 : decode cJ2_putChar_b72d1 43 = .ok (.bastore, 1) := by decide +kernel
theorem dJ2_putChar_b72d1_44 : decode cJ2_putChar_b72d1 44 = .ok (.aload_n 0, 1) := by decide +kernel
theorem dJ2_putChar_b72d1_45 : decode cJ2_putChar_b72d1 45 = .ok (.iload_n 1, 1) := by decide +kernel
theorem dJ2_putChar_b72d1_46 : decode cJ2_putChar_b72d1 46 = .ok (.iload_n 2, 1) := by decide +kernel
theorem dJ2_putChar_b72d1_47 : decode cJ2_putChar_b72d1 47 = .ok (.getstatic 63, 3) := by decide +kernel
theorem dJ2_putChar_b72d1_50 : decode cJ2_putChar_b72d1 50 = .ok (.ishr, 1) := by decide +kernel
theorem dJ2_putChar_b72d1_51 : decode cJ2_putChar_b72d1 51 = .ok (.i2b, 1) := by decide +kernel
theorem dJ2_putChar_b72d1_52 : decode cJ2_putChar_b72d1 52 = .ok (.bastore, 1) := by decide +kernel
theorem dJ2_putChar_b72d1_53 : decode cJ2_putChar_b72d1 53 = .ok (.return_, 1) := by decide +kernel
theorem dJ2_getChar_3b067_0 : decode cJ2_getChar_3b067 0 = .ok (.getstatic 44, 3) := by decide +kernel
theorem dJ2_getChar_3b067_3 : decode cJ2_getChar_3b067 3 = .ok (.ifCond .ne 25, 3) := by decide +kernel
theorem dJ2_getChar_3b067_6 : decode cJ2_getChar_3b067 6 = .ok (.iload_n 1, 1) := by decide +kernel
theorem dJ2_getChar_3b067_7 : decode cJ2_getChar_3b067 7 = .ok (.ifCond .lt 11, 3) := by decide +kernel
theorem dJ2_getChar_3b067_10 : decode cJ2_getChar_3b067 10 = .ok (.iload_n 1, 1) := by decide +kernel
theorem dJ2_getChar_3b067_11 : decode cJ2_getChar_3b067 11 = .ok (.aload_n 0, 1) := by decide +kernel
theorem dJ2_getChar_3b067_12 : decode cJ2_getChar_3b067 12 = .ok (.invokestatic 48, 3) := by decide +kernel
theorem dJ2_getChar_3b067_15 : decode cJ2_getChar_3b067 15 = .ok (.if_icmp .lt 13, 3) := by decide +kernel
theorem dJ2_getChar_3b067_18 : decode cJ2_getChar_3b067 18 = .ok (.new 52, 3) := by decide +kernel
theorem dJ2_getChar_3b067_21 : decode cJ2_getChar_3b067 21 = .ok (.dup, 1) := by decide +kernel
theorem dJ2_getChar_3b067_22 : decode cJ2_getChar_3b067 22 = .ok (.ldc 54, 2) := by decide +kernel
theorem dJ2_getChar_3b067_24 : decode cJ2_getChar_3b067 24 = .ok (.invokespecial 56, 3) := by decide +kernel
theorem dJ2_getChar_3b067_27 : decode cJ2_getChar_3b067 27 = .ok (.athrow, 1) := by decide +kernel
theorem dJ2_getChar_3b067_28 : decode cJ2_getChar_3b067 28 = .ok (.iload_n 1, 1) := by decide +kernel
theorem dJ2_getChar_3b067_29 : decode cJ2_getChar_3b067 29 = .ok (.iconst 1, 1) := by decide +kernel
theorem dJ2_getChar_3b067_30 : decode cJ2_getChar_3b067 30 = .ok (.ishl, 1) := by decide +kernel
theorem dJ2_getChar_3b067_31 : decode cJ2_getChar_3b067 31 = .ok (.istore_n 1, 1) := by decide +kernel
theorem dJ2_getChar_3b067_32 : decode cJ2_getChar_3b067 32 = .ok (.aload_n 0, 1) := by decide +kernel
theorem dJ2_getChar_3b067_33 : decode cJ2_getChar_3b067 33 = .ok (.iload_n 1, 1) := by decide +kernel
theorem dJ2_getChar_3b067_34 : decode cJ2_getChar_3b067 34 = .ok (.iinc 1 1, 3) := by decide +kernel
theorem dJ2_getChar_3b067_37 : decode cJ2_getChar_3b067 37 = .ok (.baload, 1) := by decide +kernel
theorem dJ2_getChar_3b067_38 : decode cJ2_getChar_3b067 38 = .ok (.sipush 255, 3) := by decide +kernel
theorem dJ2_getChar_3b067_41 : decode cJ2_getChar_3b067 41 = .ok (.iand, 1) := by decide +kernel
theorem dJ2_getChar_3b067_42 : decode cJ2_getChar_3b067 42 = .ok (.getstatic 59, 3) := by decide +kernel
theorem dJ2_getChar_3b067_45 : decode cJ2_getChar_3b067 45 = .ok (.ishl, 1) := by decide +kernel
theorem dJ2_getChar_3b067_46 : decode cJ2_getChar_3b067 46 = .ok (.aload_n 0, 1) := by decide +kernel
theorem dJ2_getChar_3b067_47 : decode cJ2_getChar_3b067 47 = .ok (.iload_n 1, 1) := by decide +kernel
theorem dJ2_getChar_3b067_48 : decode cJ2_getChar_3b067 48 = .ok (.baload, 1) := by decide +kernel
theorem dJ2_getChar_3b067_49 : decode cJ2_getChar_3b067 49 = .ok (.sipush 255, 3) := by decide +kernel
theorem dJ2_getChar_3b067_52 : decode cJ2_getChar_3b067 52 = .ok (.iand, 1) := by decide +kernel
theorem dJ2_getChar_3b067_53 : decode cJ2_getChar_3b067 53 = .ok (.getstatic 63, 3) := by decide +kernel
theorem dJ2_getChar_3b067_56 : decode cJ2_getChar_3b067 56 = .ok (.ishl, 1) := by decide +kernel
theorem dJ2_getChar_3b067_57 : decode cJ2_getChar_3b067 57 = .ok (.ior, 1) := by decide +kernel
theorem dJ2_getChar_3b067_58 : decode cJ2_getChar_3b067 58 = .ok (.i2c, 1) := by decide +kernel
theorem dJ2_getChar_3b067_59 : decode cJ2_getChar_3b067 59 = .ok (.ireturn, 1) := by decide +kernel
theorem dJ2_length_9d52b_0 : decode cJ2_length_9d52b 0 = .ok (.aload_n 0, 1) := by decide +kernel
theorem dJ2_length_9d52b_1 : decode cJ2_length_9d52b 1 = .ok (.arraylength, 1) := by decide +kernel
theorem dJ2_length_9d52b_2 : decode cJ2_length_9d52b 2 = .ok (.iconst 1, 1) := by decide +kernel
theorem dJ2_length_9d52b_3 : decode cJ2_length_9d52b 3 = .ok (.ishr, 1) := by decide +kernel
theorem dJ2_length_9d52b_4 : decode cJ2_length_9d52b 4 = .ok (.ireturn, 1) := by decide +kernel
theorem dJ2_coderFromArrayLen_85cad_0 : decode cJ2_coderFromArrayLen_85cad 0 = .ok (.iload_n 1, 1) := by decide +kernel
theorem dJ2_coderFromArrayLen_85cad_1 : decode cJ2_coderFromArrayLen_85cad 1 = .ok (.aload_n 0, 1) := by decide +kernel
theorem dJ2_coderFromArrayLen_85cad_2 : decode cJ2_coderFromArrayLen_85cad 2 = .ok (.arraylength, 1) := by decide +kernel
theorem dJ2_coderFromArrayLen_85cad_3 : decode cJ2_coderFromArrayLen_85cad 3 = .ok (.isub, 1) := by decide +kernel
theorem dJ2_coderFromArrayLen_85cad_4 : decode cJ2_coderFromArrayLen_85cad 4 = .ok (.bipush 31, 2) := by decide +kernel
theorem dJ2_coderFromArrayLen_85cad_6 : decode cJ2_coderFromArrayLen_85cad 6 = .ok (.iushr, 1) := by decide +kernel
theorem dJ2_coderFromArrayLen_85cad_7 : decode cJ2_coderFromArrayLen_85cad 7 = .ok (.i2b, 1) := by decide +kernel
theorem dJ2_coderFromArrayLen_85cad_8 : decode cJ2_coderFromArrayLen_85cad 8 = .ok (.ireturn, 1) := by decide +kernel
theorem dJ2_compress_39247_0 : decode cJ2_compress_39247 0 = .ok (.iload_n 2, 1) := by decide +kernel
theorem dJ2_compress_39247_1 : decode cJ2_compress_39247 1 = .ok (.newarray .byte, 2) := by decide +kernel
theorem dJ2_compress_39247_3 : decode cJ2_compress_39247 3 = .ok (.astore_n 3, 1) := by decide +kernel
theorem dJ2_compress_39247_4 : decode cJ2_compress_39247 4 = .ok (.aload_n 0, 1) := by decide +kernel
theorem dJ2_compress_39247_5 : decode cJ2_compress_39247 5 = .ok (.iload_n 1, 1) := by decide +kernel
theorem dJ2_compress_39247_6 : decode cJ2_compress_39247 6 = .ok (.aload_n 3, 1) := by decide +kernel
theorem dJ2_compress_39247_7 : decode cJ2_compress_39247 7 = .ok (.iconst 0, 1) := by decide +kernel
theorem dJ2_compress_39247_8 : decode cJ2_compress_39247 8 = .ok (.iload_n 2, 1) := by decide +kernel
theorem dJ2_compress_39247_9 : decode cJ2_compress_39247 9 = .ok (.invokestatic 123, 3) := by decide +kernel
theorem dJ2_compress_39247_12 : decode cJ2_compress_39247 12 = .ok (.istore 4, 2) := by decide +kernel
theorem dJ2_compress_39247_14 : decode cJ2_compress_39247 14 = .ok (.iload 4, 2) := by decide +kernel
theorem dJ2_compress_39247_16 : decode cJ2_compress_39247 16 = .ok (.iload_n 2, 1) := by decide +kernel
theorem dJ2_compress_39247_17 : decode cJ2_compress_39247 17 = .ok (.if_icmp .eq 47, 3) := by decide +kernel
theorem dJ2_compress_39247_20 : decode cJ2_compress_39247 20 = .ok (.aload_n 0, 1) := by decide +kernel
theorem dJ2_compress_39247_21 : decode cJ2_compress_39247 21 = .ok (.iload_n 1, 1) := by decide +kernel
theorem dJ2_compress_39247_22 : decode cJ2_compress_39247 22 = .ok (.iconst 1, 1) := by decide +kernel
theorem dJ2_compress_39247_23 : decode cJ2_compress_39247 23 = .ok (.ishl, 1) := by decide +kernel
theorem dJ2_compress_39247_24 : decode cJ2_compress_39247 24 = .ok (.iload_n 1, 1) := by decide +kernel
theorem dJ2_compress_39247_25 : decode cJ2_compress_39247 25 = .ok (.iload_n 2, 1) := by decide +kernel
theorem dJ2_compress_39247_26 : decode cJ2_compress_39247 26 = .ok (.iadd, 1) := by decide +kernel
theorem dJ2_compress_39247_27 : decode cJ2_compress_39247 27 = .ok (.invokestatic 11, 3) := by decide +kernel
theorem dJ2_compress_39247_30 : decode cJ2_compress_39247 30 = .ok (.invokestatic 126, 3) := by decide +kernel
theorem dJ2_compress_39247_33 : decode cJ2_compress_39247 33 = .ok (.astore 5, 2) := by decide +kernel
theorem dJ2_compress_39247_35 : decode cJ2_compress_39247 35 = .ok (.aload 5, 2) := by decide +kernel
theorem dJ2_compress_39247_37 : decode cJ2_compress_39247 37 = .ok (.iload 4, 2) := by decide +kernel
theorem dJ2_compress_39247_39 : decode cJ2_compress_39247 39 = .ok (.invokestatic 71, 3) := by decide +kernel
theorem dJ2_compress_39247_42 : decode cJ2_compress_39247 42 = .ok (.sipush 255, 3) := by decide +kernel
theorem dJ2_compress_39247_45 : decode cJ2_compress_39247 45 = .ok (.if_icmp .gt 16, 3) := by decide +kernel
theorem dJ2_compress_39247_48 : decode cJ2_compress_39247 48 = .ok (.aload 5, 2) := by decide +kernel
theorem dJ2_compress_39247_50 : decode cJ2_compress_39247 50 = .ok (.iconst 0, 1) := by decide +kernel
theorem dJ2_compress_39247_51 : decode cJ2_compress_39247 51 = .ok (.aload_n 3, 1) := by decide +kernel
theorem dJ2_compress_39247_52 : decode cJ2_compress_39247 52 = .ok (.iconst 0, 1) := by decide +kernel
theorem dJ2_compress_39247_53 : decode cJ2_compress_39247 53 = .ok (.iload_n 2, 1) := by decide +kernel
theorem dJ2_compress_39247_54 : decode cJ2_compress_39247 54 = .ok (.invokestatic 123, 3) := by decide +kernel
theorem dJ2_compress_39247_57 : decode cJ2_compress_39247 57 = .ok (.iload_n 2, 1) := by decide +kernel
theorem dJ2_compress_39247_58 : decode cJ2_compress_39247 58 = .ok (.if_icmp .eq 6, 3) := by decide +kernel
theorem dJ2_compress_39247_61 : decode cJ2_compress_39247 61 = .ok (.aload 5, 2) := by decide +kernel
theorem dJ2_compress_39247_63 : decode cJ2_compress_39247 63 = .ok (.areturn, 1) := by decide +kernel
theorem dJ2_compress_39247_64 : decode cJ2_compress_39247 64 = .ok (.aload_n 3, 1) := by decide +kernel
theorem dJ2_compress_39247_65 : decode cJ2_compress_39247 65 = .ok (.areturn, 1) := by decide +kernel
theorem dJ2_compress_5af95_0 : decode cJ2_compress_5af95 0 = .ok (.iload_n 1, 1) := by decide +kernel
theorem dJ2_compress_5af95_1 : decode cJ2_compress_5af95 1 = .ok (.iload 4, 2) := by decide +kernel
theorem dJ2_compress_5af95_3 : decode cJ2_compress_5af95 3 = .ok (.aload_n 0, 1) := by decide +kernel
theorem dJ2_compress_5af95_4 : decode cJ2_compress_5af95 4 = .ok (.invokestatic 173, 3) := by decide +kernel
theorem dJ2_compress_5af95_7 : decode cJ2_compress_5af95 7 = .ok (.iconst 0, 1) := by decide +kernel
theorem dJ2_compress_5af95_8 : decode cJ2_compress_5af95 8 = .ok (.istore 5, 2) := by decide +kernel
theorem dJ2_compress_5af95_10 : decode cJ2_compress_5af95 10 = .ok (.iload 5, 2) := by decide +kernel
theorem dJ2_compress_5af95_12 : decode cJ2_compress_5af95 12 = .ok (.iload 4, 2) := by decide +kernel
theorem dJ2_compress_5af95_14 : decode cJ2_compress_5af95 14 = .ok (.if_icmp .ge 39, 3) := by decide +kernel
theorem dJ2_compress_5af95_17 : decode cJ2_compress_5af95 17 = .ok (.aload_n 0, 1) := by decide +kernel
theorem dJ2_compress_5af95_18 : decode cJ2_compress_5af95 18 = .ok (.iload_n 1, 1) := by decide +kernel
theorem dJ2_compress_5af95_19 : decode cJ2_compress_5af95 19 = .ok (.invokestatic 71, 3) := by decide +kernel
theorem dJ2_compress_5af95_22 : decode cJ2_compress_5af95 22 = .ok (.istore 6, 2) := by decide +kernel
theorem dJ2_compress_5af95_24 : decode cJ2_compress_5af95 24 = .ok (.iload 6, 2) := by decide +kernel
theorem dJ2_compress_5af95_26 : decode cJ2_compress_5af95 26 = .ok (.sipush 255, 3) := by decide +kernel
theorem dJ2_compress_5af95_29 : decode cJ2_compress_5af95 29 = .ok (.if_icmp .le 6, 3) := by decide +kernel
theorem dJ2_compress_5af95_32 : decode cJ2_compress_5af95 32 = .ok (.iload 5, 2) := by decide +kernel
theorem dJ2_compress_5af95_34 : decode cJ2_compress_5af95 34 = .ok (.ireturn, 1) := by decide +kernel
theorem dJ2_compress_5af95_35 : decode cJ2_compress_5af95 35 = .ok (.aload_n 2, 1) := by decide +kernel
theorem dJ2_compress_5af95_36 : decode cJ2_compress_5af95 36 = .ok (.iload_n 3, 1) := by decide +kernel
theorem dJ2_compress_5af95_37 : decode cJ2_compress_5af95 37 = .ok (.iload 6, 2) := by decide +kernel
theorem dJ2_compress_5af95_39 : decode cJ2_compress_5af95 39 = .ok (.i2b, 1) := by decide +kernel
theorem dJ2_compress_5af95_40 : decode cJ2_compress_5af95 40 = .ok (.bastore, 1) := by decide +kernel
theorem dJ2_compress_5af95_41 : decode cJ2_compress_5af95 41 = .ok (.iinc 1 1, 3) := by decide +kernel
theorem dJ2_compress_5af95_44 : decode cJ2_compress_5af95 44 = .ok (.iinc 3 1, 3) := by decide +kernel
theorem dJ2_compress_5af95_47 : decode cJ2_compress_5af95 47 = .ok (.iinc 5 1, 3) := by decide +kernel
theorem dJ2_compress_5af95_50 : decode cJ2_compress_5af95 50 = .ok (.goto (-40), 3) := by decide +kernel
theorem dJ2_compress_5af95_53 : decode cJ2_compress_5af95 53 = .ok (.iload 4, 2) := by decide +kernel
theorem dJ2_compress_5af95_55 : decode cJ2_compress_5af95 55 = .ok (.ireturn, 1) := by decide +kernel
theorem dJ2_indexOf_4cfef_0 : decode cJ2_indexOf_4cfef 0 = .ok (.iload_n 2, 1) := by decide +kernel
theorem dJ2_indexOf_4cfef_1 : decode cJ2_indexOf_4cfef 1 = .ok (.iconst 0, 1) := by decide +kernel
theorem dJ2_indexOf_4cfef_2 : decode cJ2_indexOf_4cfef 2 = .ok (.invokestatic 224, 3) := by decide +kernel
theorem dJ2_indexOf_4cfef_5 : decode cJ2_indexOf_4cfef 5 = .ok (.istore_n 2, 1) := by decide +kernel
theorem dJ2_indexOf_4cfef_6 : decode cJ2_indexOf_4cfef 6 = .ok (.iload_n 3, 1) := by decide +kernel
theorem dJ2_indexOf_4cfef_7 : decode cJ2_indexOf_4cfef 7 = .ok (.aload_n 0, 1) := by decide +kernel
theorem dJ2_indexOf_4cfef_8 : decode cJ2_indexOf_4cfef 8 = .ok (.arraylength, 1) := by decide +kernel
theorem dJ2_indexOf_4cfef_9 : decode cJ2_indexOf_4cfef 9 = .ok (.iconst 1, 1) := by decide +kernel
theorem dJ2_indexOf_4cfef_10 : decode cJ2_indexOf_4cfef 10 = .ok (.ishr, 1) := by decide +kernel
theorem dJ2_indexOf_4cfef_11 : decode cJ2_indexOf_4cfef 11 = .ok (.invokestatic 183, 3) := by decide +kernel
theorem dJ2_indexOf_4cfef_14 : decode cJ2_indexOf_4cfef 14 = .ok (.istore_n 3, 1) := by decide +kernel
theorem dJ2_indexOf_4cfef_15 : decode cJ2_indexOf_4cfef 15 = .ok (.iload_n 2, 1) := by decide +kernel
theorem dJ2_indexOf_4cfef_16 : decode cJ2_indexOf_4cfef 16 = .ok (.iload_n 3, 1) := by decide +kernel
theorem dJ2_indexOf_4cfef_17 : decode cJ2_indexOf_4cfef 17 = .ok (.if_icmp .lt 5, 3) := by decide +kernel
theorem dJ2_indexOf_4cfef_20 : decode cJ2_indexOf_4cfef 20 = .ok (.iconst (-1), 1) := by decide +kernel
theorem dJ2_indexOf_4cfef_21 : decode cJ2_indexOf_4cfef 21 = .ok (.ireturn, 1) := by decide +kernel
theorem dJ2_indexOf_4cfef_22 : decode cJ2_indexOf_4cfef 22 = .ok (.iload_n 1, 1) := by decide +kernel
theorem dJ2_indexOf_4cfef_23 : decode cJ2_indexOf_4cfef 23 = .ok (.ldc 227, 2) := by decide +kernel
theorem dJ2_indexOf_4cfef_25 : decode cJ2_indexOf_4cfef 25 = .ok (.if_icmp .ge 11, 3) := by decide +kernel
theorem dJ2_indexOf_4cfef_28 : decode cJ2_indexOf_4cfef 28 = .ok (.aload_n 0, 1) := by decide +kernel
theorem dJ2_indexOf_4cfef_29 : decode cJ2_indexOf_4cfef 29 = .ok (.iload_n 1, 1) := by decide +kernel
theorem dJ2_indexOf_4cfef_30 : decode cJ2_indexOf_4cfef 30 = .ok (.iload_n 2, 1) := by decide +kernel
theorem dJ2_indexOf_4cfef_31 : decode cJ2_indexOf_4cfef 31 = .ok (.iload_n 3, 1) := by decide +kernel
theorem dJ2_indexOf_4cfef_32 : decode cJ2_indexOf_4cfef 32 = .ok (.invokestatic 228, 3) := by decide +kernel
theorem dJ2_indexOf_4cfef_35 : decode cJ2_indexOf_4cfef 35 = .ok (.ireturn, 1) := by decide +kernel
theorem dJ2_indexOf_4cfef_36 : decode cJ2_indexOf_4cfef 36 = .ok (.aload_n 0, 1) := by decide +kernel
theorem dJ2_indexOf_4cfef_37 : decode cJ2_indexOf_4cfef 37 = .ok (.iload_n 1, 1) := by decide +kernel
theorem dJ2_indexOf_4cfef_38 : decode cJ2_indexOf_4cfef 38 = .ok (.iload_n 2, 1) := by decide +kernel
theorem dJ2_indexOf_4cfef_39 : decode cJ2_indexOf_4cfef 39 = .ok (.iload_n 3, 1) := by decide +kernel
theorem dJ2_indexOf_4cfef_40 : decode cJ2_indexOf_4cfef 40 = .ok (.invokestatic 232, 3) := by decide +kernel
theorem dJ2_indexOf_4cfef_43 : decode cJ2_indexOf_4cfef 43 = .ok (.ireturn, 1) := by decide +kernel
theorem dJ2_indexOfChar_4cfef_0 : decode cJ2_indexOfChar_4cfef 0 = .ok (.iload_n 2, 1) := by decide +kernel
theorem dJ2_indexOfChar_4cfef_1 : decode cJ2_indexOfChar_4cfef 1 = .ok (.iload_n 3, 1) := by decide +kernel
theorem dJ2_indexOfChar_4cfef_2 : decode cJ2_indexOfChar_4cfef 2 = .ok (.aload_n 0, 1) := by decide +kernel
theorem dJ2_indexOfChar_4cfef_3 : decode cJ2_indexOfChar_4cfef 3 = .ok (.invokestatic 96, 3) := by decide +kernel
theorem dJ2_indexOfChar_4cfef_6 : decode cJ2_indexOfChar_4cfef 6 = .ok (.aload_n 0, 1) := by decide +kernel
theorem dJ2_indexOfChar_4cfef_7 : decode cJ2_indexOfChar_4cfef 7 = .ok (.iload_n 1, 1) := by decide +kernel
theorem dJ2_indexOfChar_4cfef_8 : decode cJ2_indexOfChar_4cfef 8 = .ok (.iload_n 2, 1) := by decide +kernel
theorem dJ2_indexOfChar_4cfef_9 : decode cJ2_indexOfChar_4cfef 9 = .ok (.iload_n 3, 1) := by decide +kernel
theorem dJ2_indexOfChar_4cfef_10 : decode cJ2_indexOfChar_4cfef 10 = .ok (.invokestatic 244, 3) := by decide +kernel
theorem dJ2_indexOfChar_4cfef_13 : decode cJ2_indexOfChar_4cfef 13 = .ok (.ireturn, 1) := by decide +kernel
theorem dJ2_indexOfCharUnsafe_4cfef_0 : decode cJ2_indexOfCharUnsafe_4cfef 0 = .ok (.iload_n 2, 1) := by decide +kernel
theorem dJ2_indexOfCharUnsafe_4cfef_1 : decode cJ2_indexOfCharUnsafe_4cfef 1 = .ok (.istore 4, 2) := by decide +kernel
theorem dJ2_indexOfCharUnsafe_4cfef_3 : decode cJ2_indexOfCharUnsafe_4cfef 3 = .ok (.iload 4, 2) := by decide +kernel
theorem dJ2_indexOfCharUnsafe_4cfef_5 : decode cJ2_indexOfCharUnsafe_4cfef 5 = .ok (.iload_n 3, 1) := by decide +kernel
theorem dJ2_indexOfCharUnsafe_4cfef_6 : decode cJ2_indexOfCharUnsafe_4cfef 6 = .ok (.if_icmp .ge 22, 3) := by decide +kernel
theorem dJ2_indexOfCharUnsafe_4cfef_9 : decode cJ2_indexOfCharUnsafe_4cfef 9 = .ok (.aload_n 0, 1) := by decide +kernel
theorem dJ2_indexOfCharUnsafe_4cfef_10 : decode cJ2_indexOfCharUnsafe_4cfef 10 = .ok (.iload 4, 2) := by decide +kernel
theorem dJ2_indexOfCharUnsafe_4cfef_12 : decode cJ2_indexOfCharUnsafe_4cfef 12 = .ok (.invokestatic 71, 3) := by decide +kernel
theorem dJ2_indexOfCharUnsafe_4cfef_15 : decode cJ2_indexOfCharUnsafe_4cfef 15 = .ok (.iload_n 1, 1) := by decide +kernel
theorem dJ2_indexOfCharUnsafe_4cfef_16 : decode cJ2_indexOfCharUnsafe_4cfef 16 = .ok (.if_icmp .ne 6, 3) := by decide +kernel
theorem dJ2_indexOfCharUnsafe_4cfef_19 : decode cJ2_indexOfCharUnsafe_4cfef 19 = .ok (.iload 4, 2) := by decide +kernel
theorem dJ2_indexOfCharUnsafe_4cfef_21 : decode cJ2_indexOfCharUnsafe_4cfef 21 = .ok (.ireturn, 1) := by decide +kernel
theorem dJ2_indexOfCharUnsafe_4cfef_22 : decode cJ2_indexOfCharUnsafe_4cfef 22 = .ok (.iinc 4 1, 3) := by decide +kernel
theorem dJ2_indexOfCharUnsafe_4cfef_25 : decode cJ2_indexOfCharUnsafe_4cfef 25 = .ok (.goto (-22), 3) := by decide +kernel
theorem dJ2_indexOfCharUnsafe_4cfef_28 : decode cJ2_indexOfCharUnsafe_4cfef 28 = .ok (.iconst (-1), 1) := by decide +kernel
theorem dJ2_indexOfCharUnsafe_4cfef_29 : decode cJ2_indexOfCharUnsafe_4cfef 29 = .ok (.ireturn, 1) := by decide +kernel
theorem dJ2_indexOfSupplementary_4cfef_0 : decode cJ2_indexOfSupplementary_4cfef 0 = .ok (.iload_n 1, 1) := by decide +kernel
theorem dJ2_indexOfSupplementary_4cfef_1 : decode cJ2_indexOfSupplementary_4cfef 1 = .ok (.invokestatic 164, 3) := by decide +kernel
theorem dJ2_indexOfSupplementary_4cfef_4 : decode cJ2_indexOfSupplementary_4cfef 4 = .ok (.ifCond .eq 65, 3) := by decide +kernel
theorem dJ2_indexOfSupplementary_4cfef_7 : decode cJ2_indexOfSupplementary_4cfef 7 = .ok (.iload_n 1, 1) := by decide +kernel
theorem dJ2_indexOfSupplementary_4cfef_8 : decode cJ2_indexOfSupplementary_4cfef 8 = .ok (.invokestatic 157, 3) := by decide +kernel
theorem dJ2_indexOfSupplementary_4cfef_11 : decode cJ2_indexOfSupplementary_4cfef 11 = .ok (.istore 4, 2) := by decide +kernel
theorem dJ2_indexOfSupplementary_4cfef_13 : decode cJ2_indexOfSupplementary_4cfef 13 = .ok (.iload_n 1, 1) := by decide +kernel
theorem dJ2_indexOfSupplementary_4cfef_14 : decode cJ2_indexOfSupplementary_4cfef 14 = .ok (.invokestatic 161, 3) := by decide +kernel
theorem dJ2_indexOfSupplementary_4cfef_17 : decode cJ2_indexOfSupplementary_4cfef 17 = .ok (.istore 5, 2) := by decide +kernel
theorem dJ2_indexOfSupplementary_4cfef_19 : decode cJ2_indexOfSupplementary_4cfef 19 = .ok (.iload_n 2, 1) := by decide +kernel
theorem dJ2_indexOfSupplementary_4cfef_20 : decode cJ2_indexOfSupplementary_4cfef 20 = .ok (.iload_n 3, 1) := by decide +kernel
theorem dJ2_indexOfSupplementary_4cfef_21 : decode cJ2_indexOfSupplementary_4cfef 21 = .ok (.aload_n 0, 1) := by decide +kernel
theorem dJ2_indexOfSupplementary_4cfef_22 : decode cJ2_indexOfSupplementary_4cfef 22 = .ok (.invokestatic 96, 3) := by decide +kernel
theorem dJ2_indexOfSupplementary_4cfef_25 : decode cJ2_indexOfSupplementary_4cfef 25 = .ok (.iload_n 2, 1) := by decide +kernel
theorem dJ2_indexOfSupplementary_4cfef_26 : decode cJ2_indexOfSupplementary_4cfef 26 = .ok (.istore 6, 2) := by decide +kernel
theorem dJ2_indexOfSupplementary_4cfef_28 : decode cJ2_indexOfSupplementary_4cfef 28 = .ok (.iload 6, 2) := by decide +kernel
theorem dJ2_indexOfSupplementary_4cfef_30 : decode cJ2_indexOfSupplementary_4cfef 30 = .ok (.iload_n 3, 1) := by decide +kernel
theorem dJ2_indexOfSupplementary_4cfef_31 : decode cJ2_indexOfSupplementary_4cfef 31 = .ok (.iconst 1, 1) := by decide +kernel
theorem dJ2_indexOfSupplementary_4cfef_32 : decode cJ2_indexOfSupplementary_4cfef 32 = .ok (.isub, 1) := by decide +kernel
theorem dJ2_indexOfSupplementary_4cfef_33 : decode cJ2_indexOfSupplementary_4cfef 33 = .ok (.if_icmp .ge 36, 3) := by decide +kernel
theorem dJ2_indexOfSupplementary_4cfef_36 : decode cJ2_indexOfSupplementary_4cfef 36 = .ok (.aload_n 0, 1) := by decide +kernel
theorem dJ2_indexOfSupplementary_4cfef_37 : decode cJ2_indexOfSupplementary_4cfef 37 = .ok (.iload 6, 2) := by decide +kernel
theorem dJ2_indexOfSupplementary_4cfef_39 : decode cJ2_indexOfSupplementary_4cfef 39 = .ok (.invokestatic 71, 3) := by decide +kernel
theorem dJ2_indexOfSupplementary_4cfef_42 : decode cJ2_indexOfSupplementary_4cfef 42 = .ok (.iload 4, 2) := by decide +kernel
theorem dJ2_indexOfSupplementary_4cfef_44 : decode cJ2_indexOfSupplementary_4cfef 44 = .ok (.if_icmp .ne 19, 3) := by decide +kernel
theorem dJ2_indexOfSupplementary_4cfef_47 : decode cJ2_indexOfSupplementary_4cfef 47 = .ok (.aload_n 0, 1) := by decide +kernel
theorem dJ2_indexOfSupplementary_4cfef_48 : decode cJ2_indexOfSupplementary_4cfef 48 = .ok (.iload 6, 2) := by decide +kernel
theorem dJ2_indexOfSupplementary_4cfef_50 : decode cJ2_indexOfSupplementary_4cfef 50 = .ok (.iconst 1, 1) := by decide +kernel
theorem dJ2_indexOfSupplementary_4cfef_51 : decode cJ2_indexOfSupplementary_4cfef 51 = .ok (.iadd, 1) := by decide +kernel
theorem dJ2_indexOfSupplementary_4cfef_52 : decode cJ2_indexOfSupplementary_4cfef 52 = .ok (.invokestatic 71, 3) := by decide +kernel
theorem dJ2_indexOfSupplementary_4cfef_55 : decode cJ2_indexOfSupplementary_4cfef 55 = .ok (.iload 5, 2) := by decide +kernel
theorem dJ2_indexOfSupplementary_4cfef_57 : decode cJ2_indexOfSupplementary_4cfef 57 = .ok (.if_icmp .ne 6, 3) := by decide +kernel
theorem dJ2_indexOfSupplementary_4cfef_60 : decode cJ2_indexOfSupplementary_4cfef 60 = .ok (.iload 6, 2) := by decide +kernel
theorem dJ2_indexOfSupplementary_4cfef_62 : decode cJ2_indexOfSupplementary_4cfef 62 = .ok (.ireturn, 1) := by decide +kernel
theorem dJ2_indexOfSupplementary_4cfef_63 : decode cJ2_indexOfSupplementary_4cfef 63 = .ok (.iinc 6 1, 3) := by decide +kernel
theorem dJ2_indexOfSupplementary_4cfef_66 : decode cJ2_indexOfSupplementary_4cfef 66 = .ok (.goto (-38), 3) := by decide +kernel
theorem dJ2_indexOfSupplementary_4cfef_69 : decode cJ2_indexOfSupplementary_4cfef 69 = .ok (.iconst (-1), 1) := by decide +kernel
theorem dJ2_indexOfSupplementary_4cfef_70 : decode cJ2_indexOfSupplementary_4cfef 70 = .ok (.ireturn, 1) := by decide +kernel
theorem dJ2_getChars_46870_0 : decode cJ2_getChars_46870 0 = .ok (.iload_n 1, 1) := by decide +kernel
theorem dJ2_getChars_46870_1 : decode cJ2_getChars_46870 1 = .ok (.iload_n 2, 1) := by decide +kernel
theorem dJ2_getChars_46870_2 : decode cJ2_getChars_46870 2 = .ok (.aload_n 3, 1) := by decide +kernel
theorem dJ2_getChars_46870_3 : decode cJ2_getChars_46870 3 = .ok (.invokestatic 96, 3) := by decide +kernel
theorem dJ2_getChars_46870_6 : decode cJ2_getChars_46870 6 = .ok (.iload_n 0, 1) := by decide +kernel
theorem dJ2_getChars_46870_7 : decode cJ2_getChars_46870 7 = .ok (.iload_n 2, 1) := by decide +kernel
theorem dJ2_getChars_46870_8 : decode cJ2_getChars_46870 8 = .ok (.aload_n 3, 1) := by decide +kernel
theorem dJ2_getChars_46870_9 : decode cJ2_getChars_46870 9 = .ok (.invokestatic 393, 3) := by decide +kernel
theorem dJ2_getChars_46870_12 : decode cJ2_getChars_46870 12 = .ok (.istore 4, 2) := by decide +kernel
theorem dJ2_getChars_46870_14 : decode cJ2_getChars_46870 14 = .ok (.getstatic 44, 3) := by decide +kernel
theorem dJ2_getChars_46870_17 : decode cJ2_getChars_46870 17 = .ok (.ifCond .ne 17, 3) := by decide +kernel
theorem dJ2_getChars_46870_20 : decode cJ2_getChars_46870 20 = .ok (.iload_n 1, 1) := by decide +kernel
theorem dJ2_getChars_46870_21 : decode cJ2_getChars_46870 21 = .ok (.iload 4, 2) := by decide +kernel
theorem dJ2_getChars_46870_23 : decode cJ2_getChars_46870 23 = .ok (.if_icmp .eq 11, 3) := by decide +kernel
theorem dJ2_getChars_46870_26 : decode cJ2_getChars_46870 26 = .ok (.new 52, 3) := by decide +kernel
theorem dJ2_getChars_46870_29 : decode cJ2_getChars_46870 29 = .ok (.dup, 1) := by decide +kernel
theorem dJ2_getChars_46870_30 : decode cJ2_getChars_46870 30 = .ok (.invokespecial 66, 3) := by decide +kernel
theorem dJ2_getChars_46870_33 : decode cJ2_getChars_46870 33 = .ok (.athrow, 1) := by decide +kernel
theorem dJ2_getChars_46870_34 : decode cJ2_getChars_46870 34 = .ok (.iload 4, 2) := by decide +kernel
theorem dJ2_getChars_46870_36 : decode cJ2_getChars_46870 36 = .ok (.ireturn, 1) := by decide +kernel
theorem dJ2_putCharsAt_cd4e5_0 : decode cJ2_putCharsAt_cd4e5 0 = .ok (.iload_n 1, 1) := by decide +kernel
theorem dJ2_putCharsAt_cd4e5_1 : decode cJ2_putCharsAt_cd4e5 1 = .ok (.iconst 4, 1) := by decide +kernel
theorem dJ2_putCharsAt_cd4e5_2 : decode cJ2_putCharsAt_cd4e5 2 = .ok (.iadd, 1) := by decide +kernel
theorem dJ2_putCharsAt_cd4e5_3 : decode cJ2_putCharsAt_cd4e5 3 = .ok (.istore 6, 2) := by decide +kernel
theorem dJ2_putCharsAt_cd4e5_5 : decode cJ2_putCharsAt_cd4e5 5 = .ok (.iload_n 1, 1) := by decide +kernel
theorem dJ2_putCharsAt_cd4e5_6 : decode cJ2_putCharsAt_cd4e5 6 = .ok (.iload 6, 2) := by decide +kernel
theorem dJ2_putCharsAt_cd4e5_8 : decode cJ2_putCharsAt_cd4e5 8 = .ok (.aload_n 0, 1) := by decide +kernel
theorem dJ2_putCharsAt_cd4e5_9 : decode cJ2_putCharsAt_cd4e5 9 = .ok (.invokestatic 96, 3) := by decide +kernel
theorem dJ2_putCharsAt_cd4e5_12 : decode cJ2_putCharsAt_cd4e5 12 = .ok (.aload_n 0, 1) := by decide +kernel
theorem dJ2_putCharsAt_cd4e5_13 : decode cJ2_putCharsAt_cd4e5 13 = .ok (.iload_n 1, 1) := by decide +kernel
theorem dJ2_putCharsAt_cd4e5_14 : decode cJ2_putCharsAt_cd4e5 14 = .ok (.iinc 1 1, 3) := by decide +kernel
theorem dJ2_putCharsAt_cd4e5_17 : decode cJ2_putCharsAt_cd4e5 17 = .ok (.iload_n 2, 1) := by decide +kernel
theorem dJ2_putCharsAt_cd4e5_18 : decode cJ2_putCharsAt_cd4e5 18 = .ok (.invokestatic 111, 3) := by decide +kernel
theorem dJ2_putCharsAt_cd4e5_21 : decode cJ2_putCharsAt_cd4e5 21 = .ok (.aload_n 0, 1) := by decide +kernel
theorem dJ2_putCharsAt_cd4e5_22 : decode cJ2_putCharsAt_cd4e5 22 = .ok (.iload_n 1, 1) := by decide +kernel
theorem dJ2_putCharsAt_cd4e5_23 : decode cJ2_putCharsAt_cd4e5 23 = .ok (.iinc 1 1, 3) := by decide +kernel
theorem dJ2_putCharsAt_cd4e5_26 : decode cJ2_putCharsAt_cd4e5 26 = .ok (.iload_n 3, 1) := by decide +kernel
theorem dJ2_putCharsAt_cd4e5_27 : decode cJ2_putCharsAt_cd4e5 27 = .ok (.invokestatic 111, 3) := by decide +kernel
theorem dJ2_putCharsAt_cd4e5_30 : decode cJ2_putCharsAt_cd4e5 30 = .ok (.aload_n 0, 1) := by decide +kernel
theorem dJ2_putCharsAt_cd4e5_31 : decode cJ2_putCharsAt_cd4e5 31 = .ok (.iload_n 1, 1) := by decide +kernel
theorem dJ2_putCharsAt_cd4e5_32 : decode cJ2_putCharsAt_cd4e5 32 = .ok (.iinc 1 1, 3) := by decide +kernel
theorem dJ2_putCharsAt_cd4e5_35 : decode cJ2_putCharsAt_cd4e5 35 = .ok (.iload 4, 2) := by decide +kernel
theorem dJ2_putCharsAt_cd4e5_37 : decode cJ2_putCharsAt_cd4e5 37 = .ok (.invokestatic 111, 3) := by decide +kernel
theorem dJ2_putCharsAt_cd4e5_40 : decode cJ2_putCharsAt_cd4e5 40 = .ok (.aload_n 0, 1) := by decide +kernel
theorem dJ2_putCharsAt_cd4e5_41 : decode cJ2_putCharsAt_cd4e5 41 = .ok (.iload_n 1, 1) := by decide +kernel
theorem dJ2_putCharsAt_cd4e5_42 : decode cJ2_putCharsAt_cd4e5 42 = .ok (.iinc 1 1, 3) := by decide +kernel
theorem dJ2_putCharsAt_cd4e5_45 : decode cJ2_putCharsAt_cd4e5 45 = .ok (.iload 5, 2) := by decide +kernel
theorem dJ2_putCharsAt_cd4e5_47 : decode cJ2_putCharsAt_cd4e5 47 = .ok (.invokestatic 111, 3) := by decide +kernel
theorem dJ2_putCharsAt_cd4e5_50 : decode cJ2_putCharsAt_cd4e5 50 = .ok (.getstatic 44, 3) := by decide +kernel
theorem dJ2_putCharsAt_cd4e5_53 : decode cJ2_putCharsAt_cd4e5 53 = .ok (.ifCond .ne 17, 3) := by decide +kernel
theorem dJ2_putCharsAt_cd4e5_56 : decode cJ2_putCharsAt_cd4e5 56 = .ok (.iload_n 1, 1) := by decide +kernel
theorem dJ2_putCharsAt_cd4e5_57 : decode cJ2_putCharsAt_cd4e5 57 = .ok (.iload 6, 2) := by decide +kernel
theorem dJ2_putCharsAt_cd4e5_59 : decode cJ2_putCharsAt_cd4e5 59 = .ok (.if_icmp .eq 11, 3) := by decide +kernel
theorem dJ2_putCharsAt_cd4e5_62 : decode cJ2_putCharsAt_cd4e5 62 = .ok (.new 52, 3) := by decide +kernel
theorem dJ2_putCharsAt_cd4e5_65 : decode cJ2_putCharsAt_cd4e5 65 = .ok (.dup, 1) := by decide +kernel
theorem dJ2_putCharsAt_cd4e5_66 : decode cJ2_putCharsAt_cd4e5 66 = .ok (.invokespecial 66, 3) := by decide +kernel
theorem dJ2_putCharsAt_cd4e5_69 : decode cJ2_putCharsAt_cd4e5 69 = .ok (.athrow, 1) := by decide +kernel
theorem dJ2_putCharsAt_cd4e5_70 : decode cJ2_putCharsAt_cd4e5 70 = .ok (.iload 6, 2) := by decide +kernel
theorem dJ2_putCharsAt_cd4e5_72 : decode cJ2_putCharsAt_cd4e5 72 = .ok (.ireturn, 1) := by decide +kernel
theorem dJ2_charAt_3b067_0 : decode cJ2_charAt_3b067 0 = .ok (.iload_n 1, 1) := by decide +kernel
theorem dJ2_charAt_3b067_1 : decode cJ2_charAt_3b067 1 = .ok (.aload_n 0, 1) := by decide +kernel
theorem dJ2_charAt_3b067_2 : decode cJ2_charAt_3b067 2 = .ok (.invokestatic 67, 3) := by decide +kernel
theorem dJ2_charAt_3b067_5 : decode cJ2_charAt_3b067 5 = .ok (.aload_n 0, 1) := by decide +kernel
theorem dJ2_charAt_3b067_6 : decode cJ2_charAt_3b067 6 = .ok (.iload_n 1, 1) := by decide +kernel
theorem dJ2_charAt_3b067_7 : decode cJ2_charAt_3b067 7 = .ok (.invokestatic 71, 3) := by decide +kernel
theorem dJ2_charAt_3b067_10 : decode cJ2_charAt_3b067 10 = .ok (.ireturn, 1) := by decide +kernel
theorem dJ2_inflate_0e8fd_0 : decode cJ2_inflate_0e8fd 0 = .ok (.iload_n 3, 1) := by decide +kernel
theorem dJ2_inflate_0e8fd_1 : decode cJ2_inflate_0e8fd 1 = .ok (.iload 4, 2) := by decide +kernel
theorem dJ2_inflate_0e8fd_3 : decode cJ2_inflate_0e8fd 3 = .ok (.aload_n 2, 1) := by decide +kernel
theorem dJ2_inflate_0e8fd_4 : decode cJ2_inflate_0e8fd 4 = .ok (.invokestatic 173, 3) := by decide +kernel
theorem dJ2_inflate_0e8fd_7 : decode cJ2_inflate_0e8fd 7 = .ok (.iconst 0, 1) := by decide +kernel
theorem dJ2_inflate_0e8fd_8 : decode cJ2_inflate_0e8fd 8 = .ok (.istore 5, 2) := by decide +kernel
theorem dJ2_inflate_0e8fd_10 : decode cJ2_inflate_0e8fd 10 = .ok (.iload 5, 2) := by decide +kernel
theorem dJ2_inflate_0e8fd_12 : decode cJ2_inflate_0e8fd 12 = .ok (.iload 4, 2) := by decide +kernel
theorem dJ2_inflate_0e8fd_14 : decode cJ2_inflate_0e8fd 14 = .ok (.if_icmp .ge 27, 3) := by decide +kernel
theorem dJ2_inflate_0e8fd_17 : decode cJ2_inflate_0e8fd 17 = .ok (.aload_n 2, 1) := by decide +kernel
theorem dJ2_inflate_0e8fd_18 : decode cJ2_inflate_0e8fd 18 = .ok (.iload_n 3, 1) := by decide +kernel
theorem dJ2_inflate_0e8fd_19 : decode cJ2_inflate_0e8fd 19 = .ok (.iinc 3 1, 3) := by decide +kernel
theorem dJ2_inflate_0e8fd_22 : decode cJ2_inflate_0e8fd 22 = .ok (.aload_n 0, 1) := by decide +kernel
theorem dJ2_inflate_0e8fd_23 : decode cJ2_inflate_0e8fd 23 = .ok (.iload_n 1, 1) := by decide +kernel
theorem dJ2_inflate_0e8fd_24 : decode cJ2_inflate_0e8fd 24 = .ok (.iinc 1 1, 3) := by decide +kernel
theorem dJ2_inflate_0e8fd_27 : decode cJ2_inflate_0e8fd 27 = .ok (.baload, 1) := by decide +kernel
theorem dJ2_inflate_0e8fd_28 : decode cJ2_inflate_0e8fd 28 = .ok (.sipush 255, 3) := by decide +kernel
theorem dJ2_inflate_0e8fd_31 : decode cJ2_inflate_0e8fd 31 = .ok (.iand, 1) := by decide +kernel
theorem dJ2_inflate_0e8fd_32 : decode cJ2_inflate_0e8fd 32 = .ok (.invokestatic 111, 3) := by decide +kernel
theorem dJ2_inflate_0e8fd_35 : decode cJ2_inflate_0e8fd 35 = .ok (.iinc 5 1, 3) := by decide +kernel
theorem dJ2_inflate_0e8fd_38 : decode cJ2_inflate_0e8fd 38 = .ok (.goto (-28), 3) := by decide +kernel
theorem dJ2_inflate_0e8fd_41 : decode cJ2_inflate_0e8fd 41 = .ok (.return_, 1) := by decide +kernel
theorem dJ2_getChars_ba4f3_0 : decode cJ2_getChars_ba4f3 0 = .ok (.iload_n 1, 1) := by decide +kernel
theorem dJ2_getChars_ba4f3_1 : decode cJ2_getChars_ba4f3 1 = .ok (.istore 5, 2) := by decide +kernel
theorem dJ2_getChars_ba4f3_3 : decode cJ2_getChars_ba4f3 3 = .ok (.iload_n 0, 1) := by decide +kernel
theorem dJ2_getChars_ba4f3_4 : decode cJ2_getChars_ba4f3 4 = .ok (.ifCond .ge 7, 3) := by decide +kernel
theorem dJ2_getChars_ba4f3_7 : decode cJ2_getChars_ba4f3 7 = .ok (.iconst 1, 1) := by decide +kernel
theorem dJ2_getChars_ba4f3_8 : decode cJ2_getChars_ba4f3 8 = .ok (.goto 4, 3) := by decide +kernel
theorem dJ2_getChars_ba4f3_11 : decode cJ2_getChars_ba4f3 11 = .ok (.iconst 0, 1) := by decide +kernel
theorem dJ2_getChars_ba4f3_12 : decode cJ2_getChars_ba4f3 12 = .ok (.istore 6, 2) := by decide +kernel
theorem dJ2_getChars_ba4f3_14 : decode cJ2_getChars_ba4f3 14 = .ok (.iload 6, 2) := by decide +kernel
theorem dJ2_getChars_ba4f3_16 : decode cJ2_getChars_ba4f3 16 = .ok (.ifCond .ne 6, 3) := by decide +kernel
theorem dJ2_getChars_ba4f3_19 : decode cJ2_getChars_ba4f3 19 = .ok (.iload_n 0, 1) := by decide +kernel
theorem dJ2_getChars_ba4f3_20 : decode cJ2_getChars_ba4f3 20 = .ok (.ineg, 1) := by decide +kernel
theorem dJ2_getChars_ba4f3_21 : decode cJ2_getChars_ba4f3 21 = .ok (.istore_n 0, 1) := by decide +kernel
theorem dJ2_getChars_ba4f3_22 : decode cJ2_getChars_ba4f3 22 = .ok (.iload_n 0, 1) := by decide +kernel
theorem dJ2_getChars_ba4f3_23 : decode cJ2_getChars_ba4f3 23 = .ok (.bipush (-100), 2) := by decide +kernel
theorem dJ2_getChars_ba4f3_25 : decode cJ2_getChars_ba4f3 25 = .ok (.if_icmp .gt 51, 3) := by decide +kernel
theorem dJ2_getChars_ba4f3_28 : decode cJ2_getChars_ba4f3 28 = .ok (.iload_n 0, 1) := by decide +kernel
theorem dJ2_getChars_ba4f3_29 : decode cJ2_getChars_ba4f3 29 = .ok (.bipush 100, 2) := by decide +kernel
theorem dJ2_getChars_ba4f3_31 : decode cJ2_getChars_ba4f3 31 = .ok (.idiv, 1) := by decide +kernel
theorem dJ2_getChars_ba4f3_32 : decode cJ2_getChars_ba4f3 32 = .ok (.istore_n 3, 1) := by decide +kernel
theorem dJ2_getChars_ba4f3_33 : decode cJ2_getChars_ba4f3 33 = .ok (.iload_n 3, 1) := by decide +kernel
theorem dJ2_getChars_ba4f3_34 : decode cJ2_getChars_ba4f3 34 = .ok (.bipush 100, 2) := by decide +kernel
theorem dJ2_getChars_ba4f3_36 : decode cJ2_getChars_ba4f3 36 = .ok (.imul, 1) := by decide +kernel
theorem dJ2_getChars_ba4f3_37 : decode cJ2_getChars_ba4f3 37 = .ok (.iload_n 0, 1) := by decide +kernel
theorem dJ2_getChars_ba4f3_38 : decode cJ2_getChars_ba4f3 38 = .ok (.isub, 1) := by decide +kernel
theorem dJ2_getChars_ba4f3_39 : decode cJ2_getChars_ba4f3 39 = .ok (.istore 4, 2) := by decide +kernel
theorem dJ2_getChars_ba4f3_41 : decode cJ2_getChars_ba4f3 41 = .ok (.iload_n 3, 1) := by decide +kernel
theorem dJ2_getChars_ba4f3_42 : decode cJ2_getChars_ba4f3 42 = .ok (.istore_n 0, 1) := by decide +kernel
theorem dJ2_getChars_ba4f3_43 : decode cJ2_getChars_ba4f3 43 = .ok (.aload_n 2, 1) := by decide +kernel
theorem dJ2_getChars_ba4f3_44 : decode cJ2_getChars_ba4f3 44 = .ok (.iinc 5 (-1), 3) := by decide +kernel
theorem dJ2_getChars_ba4f3_47 : decode cJ2_getChars_ba4f3 47 = .ok (.iload 5, 2) := by decide +kernel
theorem dJ2_getChars_ba4f3_49 : decode cJ2_getChars_ba4f3 49 = .ok (.getstatic 403, 3) := by decide +kernel
theorem dJ2_getChars_ba4f3_52 : decode cJ2_getChars_ba4f3 52 = .ok (.iload 4, 2) := by decide +kernel
theorem dJ2_getChars_ba4f3_54 : decode cJ2_getChars_ba4f3 54 = .ok (.baload, 1) := by decide +kernel
theorem dJ2_getChars_ba4f3_55 : decode cJ2_getChars_ba4f3 55 = .ok (.invokestatic 111, 3) := by decide +kernel
theorem dJ2_getChars_ba4f3_58 : decode cJ2_getChars_ba4f3 58 = .ok (.aload_n 2, 1) := by decide +kernel
theorem dJ2_getChars_ba4f3_59 : decode cJ2_getChars_ba4f3 59 = .ok (.iinc 5 (-1), 3) := by decide +kernel
theorem dJ2_getChars_ba4f3_62 : decode cJ2_getChars_ba4f3 62 = .ok (.iload 5, 2) := by decide +kernel
theorem dJ2_getChars_ba4f3_64 : decode cJ2_getChars_ba4f3 64 = .ok (.getstatic 407, 3) := by decide +kernel
theorem dJ2_getChars_ba4f3_67 : decode cJ2_getChars_ba4f3 67 = .ok (.iload 4, 2) := by decide +kernel
theorem dJ2_getChars_ba4f3_69 : decode cJ2_getChars_ba4f3 69 = .ok (.baload, 1) := by decide +kernel
theorem dJ2_getChars_ba4f3_70 : decode cJ2_getChars_ba4f3 70 = .ok (.invokestatic 111, 3) := by decide +kernel
theorem dJ2_getChars_ba4f3_73 : decode cJ2_getChars_ba4f3 73 = .ok (.goto (-51), 3) := by decide +kernel
theorem dJ2_getChars_ba4f3_76 : decode cJ2_getChars_ba4f3 76 = .ok (.aload_n 2, 1) := by decide +kernel
theorem dJ2_getChars_ba4f3_77 : decode cJ2_getChars_ba4f3 77 = .ok (.iinc 5 (-1), 3) := by decide +kernel
theorem dJ2_getChars_ba4f3_80 : decode cJ2_getChars_ba4f3 80 = .ok (.iload 5, 2) := by decide +kernel
theorem dJ2_getChars_ba4f3_82 : decode cJ2_getChars_ba4f3 82 = .ok (.getstatic 403, 3) := by decide +kernel
theorem dJ2_getChars_ba4f3_85 : decode cJ2_getChars_ba4f3 85 = .ok (.iload_n 0, 1) := by decide +kernel
theorem dJ2_getChars_ba4f3_86 : decode cJ2_getChars_ba4f3 86 = .ok (.ineg, 1) := by decide +kernel
theorem dJ2_getChars_ba4f3_87 : decode cJ2_getChars_ba4f3 87 = .ok (.baload, 1) := by decide +kernel
theorem dJ2_getChars_ba4f3_88 : decode cJ2_getChars_ba4f3 88 = .ok (.invokestatic 111, 3) := by decide +kernel
theorem dJ2_getChars_ba4f3_91 : decode cJ2_getChars_ba4f3 91 = .ok (.iload_n 0, 1) := by decide +kernel
theorem dJ2_getChars_ba4f3_92 : decode cJ2_getChars_ba4f3 92 = .ok (.bipush (-9), 2) := by decide +kernel
theorem dJ2_getChars_ba4f3_94 : decode cJ2_getChars_ba4f3 94 = .ok (.if_icmp .ge 18, 3) := by decide +kernel
theorem dJ2_getChars_ba4f3_97 : decode cJ2_getChars_ba4f3 97 = .ok (.aload_n 2, 1) := by decide +kernel
theorem dJ2_getChars_ba4f3_98 : decode cJ2_getChars_ba4f3 98 = .ok (.iinc 5 (-1), 3) := by decide +kernel
theorem dJ2_getChars_ba4f3_101 : decode cJ2_getChars_ba4f3 101 = .ok (.iload 5, 2) := by decide +kernel
theorem dJ2_getChars_ba4f3_103 : decode cJ2_getChars_ba4f3 103 = .ok (.getstatic 407, 3) := by decide +kernel
theorem dJ2_getChars_ba4f3_106 : decode cJ2_getChars_ba4f3 106 = .ok (.iload_n 0, 1) := by decide +kernel
theorem dJ2_getChars_ba4f3_107 : decode cJ2_getChars_ba4f3 107 = .ok (.ineg, 1) := by decide +kernel
theorem dJ2_getChars_ba4f3_108 : decode cJ2_getChars_ba4f3 108 = .ok (.baload, 1) := by decide +kernel
theorem dJ2_getChars_ba4f3_109 : decode cJ2_getChars_ba4f3 109 = .ok (.invokestatic 111, 3) := by decide +kernel
theorem dJ2_getChars_ba4f3_112 : decode cJ2_getChars_ba4f3 112 = .ok (.iload 6, 2) := by decide +kernel
theorem dJ2_getChars_ba4f3_114 : decode cJ2_getChars_ba4f3 114 = .ok (.ifCond .eq 14, 3) := by decide +kernel
theorem dJ2_getChars_ba4f3_117 : decode cJ2_getChars_ba4f3 117 = .ok (.aload_n 2, 1) := by decide +kernel
theorem dJ2_getChars_ba4f3_118 : decode cJ2_getChars_ba4f3 118 = .ok (.iinc 5 (-1), 3) := by decide +kernel
theorem dJ2_getChars_ba4f3_121 : decode cJ2_getChars_ba4f3 121 = .ok (.iload 5, 2) := by decide +kernel
theorem dJ2_getChars_ba4f3_123 : decode cJ2_getChars_ba4f3 123 = .ok (.bipush 45, 2) := by decide +kernel
theorem dJ2_getChars_ba4f3_125 : decode cJ2_getChars_ba4f3 125 = .ok (.invokestatic 111, 3) := by decide +kernel
theorem dJ2_getChars_ba4f3_128 : decode cJ2_getChars_ba4f3 128 = .ok (.iload 5, 2) := by decide +kernel
theorem dJ2_getChars_ba4f3_130 : decode cJ2_getChars_ba4f3 130 = .ok (.ireturn, 1) := by decide +kernel
theorem dJ2_checkIndex_2214a_0 : decode cJ2_checkIndex_2214a 0 = .ok (.iload_n 0, 1) := by decide +kernel
theorem dJ2_checkIndex_2214a_1 : decode cJ2_checkIndex_2214a 1 = .ok (.aload_n 1, 1) := by decide +kernel
theorem dJ2_checkIndex_2214a_2 : decode cJ2_checkIndex_2214a 2 = .ok (.invokestatic 48, 3) := by decide +kernel
theorem dJ2_checkIndex_2214a_5 : decode cJ2_checkIndex_2214a 5 = .ok (.invokestatic 414, 3) := by decide +kernel
theorem dJ2_checkIndex_2214a_8 : decode cJ2_checkIndex_2214a 8 = .ok (.return_, 1) := by decide +kernel
theorem dJ2_checkBoundsBeginEnd_d044e_0 : decode cJ2_checkBoundsBeginEnd_d044e 0 = .ok (.iload_n 0, 1) := by decide +kernel
theorem dJ2_checkBoundsBeginEnd_d044e_1 : decode cJ2_checkBoundsBeginEnd_d044e 1 = .ok (.iload_n 1, 1) := by decide +kernel
theorem dJ2_checkBoundsBeginEnd_d044e_2 : decode cJ2_checkBoundsBeginEnd_d044e 2 = .ok (.aload_n 2, 1) := by decide +kernel
theorem dJ2_checkBoundsBeginEnd_d044e_3 : decode cJ2_checkBoundsBeginEnd_d044e 3 = .ok (.invokestatic 48, 3) := by decide +kernel
theorem dJ2_checkBoundsBeginEnd_d044e_6 : decode cJ2_checkBoundsBeginEnd_d044e 6 = .ok (.invokestatic 241, 3) := by decide +kernel
theorem dJ2_checkBoundsBeginEnd_d044e_9 : decode cJ2_checkBoundsBeginEnd_d044e 9 = .ok (.return_, 1) := by decide +kernel
theorem dJ2_checkBoundsOffCount_d044e_0 : decode cJ2_checkBoundsOffCount_d044e 0 = .ok (.iload_n 0, 1) := by decide +kernel
theorem dJ2_checkBoundsOffCount_d044e_1 : decode cJ2_checkBoundsOffCount_d044e 1 = .ok (.iload_n 1, 1) := by decide +kernel
theorem dJ2_checkBoundsOffCount_d044e_2 : decode cJ2_checkBoundsOffCount_d044e 2 = .ok (.aload_n 2, 1) := by decide +kernel
theorem dJ2_checkBoundsOffCount_d044e_3 : decode cJ2_checkBoundsOffCount_d044e 3 = .ok (.invokestatic 48, 3) := by decide +kernel
theorem dJ2_checkBoundsOffCount_d044e_6 : decode cJ2_checkBoundsOffCount_d044e 6 = .ok (.invokestatic 419, 3) := by decide +kernel
theorem dJ2_checkBoundsOffCount_d044e_9 : decode cJ2_checkBoundsOffCount_d044e 9 = .ok (.pop, 1) := by decide +kernel
theorem dJ2_checkBoundsOffCount_d044e_10 : decode cJ2_checkBoundsOffCount_d044e 10 = .ok (.return_, 1) := by decide +kernel
theorem dJ7_copyOf_9075b_0 : decode cJ7_copyOf_9075b 0 = .ok (.iload_n 1, 1) := by decide +kernel
theorem dJ7_copyOf_9075b_1 : decode cJ7_copyOf_9075b 1 = .ok (.aload_n 0, 1) := by decide +kernel
theorem dJ7_copyOf_9075b_2 : decode cJ7_copyOf_9075b 2 = .ok (.arraylength, 1) := by decide +kernel
theorem dJ7_copyOf_9075b_3 : decode cJ7_copyOf_9075b 3 = .ok (.if_icmp .ne 11, 3) := by decide +kernel
theorem dJ7_copyOf_9075b_6 : decode cJ7_copyOf_9075b 6 = .ok (.aload_n 0, 1) := by decide +kernel
theorem dJ7_copyOf_9075b_7 : decode cJ7_copyOf_9075b 7 = .ok (.invokevirtual 310, 3) := by decide +kernel
theorem dJ7_copyOf_9075b_10 : decode cJ7_copyOf_9075b 10 = .ok (.checkcast 311, 3) := by decide +kernel
theorem dJ7_copyOf_9075b_13 : decode cJ7_copyOf_9075b 13 = .ok (.areturn, 1) := by decide +kernel
theorem dJ7_copyOf_9075b_14 : decode cJ7_copyOf_9075b 14 = .ok (.iload_n 1, 1) := by decide +kernel
theorem dJ7_copyOf_9075b_15 : decode cJ7_copyOf_9075b 15 = .ok (.newarray .byte, 2) := by decide +kernel
theorem dJ7_copyOf_9075b_17 : decode cJ7_copyOf_9075b 17 = .ok (.astore_n 2, 1) := by decide +kernel
theorem dJ7_copyOf_9075b_18 : decode cJ7_copyOf_9075b 18 = .ok (.aload_n 0, 1) := by decide +kernel
theorem dJ7_copyOf_9075b_19 : decode cJ7_copyOf_9075b 19 = .ok (.iconst 0, 1) := by decide +kernel
theorem dJ7_copyOf_9075b_20 : decode cJ7_copyOf_9075b 20 = .ok (.aload_n 2, 1) := by decide +kernel
theorem dJ7_copyOf_9075b_21 : decode cJ7_copyOf_9075b 21 = .ok (.iconst 0, 1) := by decide +kernel
theorem dJ7_copyOf_9075b_22 : decode cJ7_copyOf_9075b 22 = .ok (.aload_n 0, 1) := by decide +kernel
theorem dJ7_copyOf_9075b_23 : decode cJ7_copyOf_9075b 23 = .ok (.arraylength, 1) := by decide +kernel
theorem dJ7_copyOf_9075b_24 : decode cJ7_copyOf_9075b 24 = .ok (.iload_n 1, 1) := by decide +kernel
theorem dJ7_copyOf_9075b_25 : decode cJ7_copyOf_9075b 25 = .ok (.invokestatic 304, 3) := by decide +kernel
theorem dJ7_copyOf_9075b_28 : decode cJ7_copyOf_9075b 28 = .ok (.invokestatic 150, 3) := by decide +kernel
theorem dJ7_copyOf_9075b_31 : decode cJ7_copyOf_9075b 31 = .ok (.aload_n 2, 1) := by decide +kernel
theorem dJ7_copyOf_9075b_32 : decode cJ7_copyOf_9075b 32 = .ok (.areturn, 1) := by decide +kernel
theorem dJ7_checkLength_df160_0 : decode cJ7_checkLength_df160 0 = .ok (.iload_n 1, 1) := by decide +kernel
theorem dJ7_checkLength_df160_1 : decode cJ7_checkLength_df160 1 = .ok (.iload_n 0, 1) := by decide +kernel
theorem dJ7_checkLength_df160_2 : decode cJ7_checkLength_df160 2 = .ok (.if_icmp .ge 35, 3) := by decide +kernel
theorem dJ7_checkLength_df160_5 : decode cJ7_checkLength_df160 5 = .ok (.new 43, 3) := by decide +kernel
theorem dJ7_checkLength_df160_8 : decode cJ7_checkLength_df160 8 = .ok (.dup, 1) := by decide +kernel
theorem dJ7_checkLength_df160_9 : decode cJ7_checkLength_df160 9 = .ok (.new 45, 3) := by decide +kernel
theorem dJ7_checkLength_df160_12 : decode cJ7_checkLength_df160 12 = .ok (.dup, 1) := by decide +kernel
theorem dJ7_checkLength_df160_13 : decode cJ7_checkLength_df160 13 = .ok (.invokespecial 47, 3) := by decide +kernel
theorem dJ7_checkLength_df160_16 : decode cJ7_checkLength_df160 16 = .ok (.iload_n 0, 1) := by decide +kernel
theorem dJ7_checkLength_df160_17 : decode cJ7_checkLength_df160 17 = .ok (.invokevirtual 54, 3) := by decide +kernel
theorem dJ7_checkLength_df160_20 : decode cJ7_checkLength_df160 20 = .ok (.ldc_w 337, 3) := by decide +kernel
theorem dJ7_checkLength_df160_23 : decode cJ7_checkLength_df160 23 = .ok (.invokevirtual 50, 3) := by decide +kernel
theorem dJ7_checkLength_df160_26 : decode cJ7_checkLength_df160 26 = .ok (.iload_n 1, 1) := by decide +kernel
theorem dJ7_checkLength_df160_27 : decode cJ7_checkLength_df160 27 = .ok (.invokevirtual 54, 3) := by decide +kernel
theorem dJ7_checkLength_df160_30 : decode cJ7_checkLength_df160 30 = .ok (.invokevirtual 61, 3) := by decide +kernel
theorem dJ7_checkLength_df160_33 : decode cJ7_checkLength_df160 33 = .ok (.invokespecial 65, 3) := by decide +kernel
theorem dJ7_checkLength_df160_36 : decode cJ7_checkLength_df160 36 = .ok (.athrow, 1) := by decide +kernel
theorem dJ7_checkLength_df160_37 : decode cJ7_checkLength_df160 37 = .ok (.return_, 1) := by decide +kernel
theorem dJ7_copyOfRange_39247_0 : decode cJ7_copyOfRange_39247 0 = .ok (.iload_n 1, 1) := by decide +kernel
theorem dJ7_copyOfRange_39247_1 : decode cJ7_copyOfRange_39247 1 = .ok (.ifCond .ne 9, 3) := by decide +kernel
theorem dJ7_copyOfRange_39247_4 : decode cJ7_copyOfRange_39247 4 = .ok (.iload_n 2, 1) := by decide +kernel
theorem dJ7_copyOfRange_39247_5 : decode cJ7_copyOfRange_39247 5 = .ok (.aload_n 0, 1) := by decide +kernel
theorem dJ7_copyOfRange_39247_6 : decode cJ7_copyOfRange_39247 6 = .ok (.arraylength, 1) := by decide +kernel
theorem dJ7_copyOfRange_39247_7 : decode cJ7_copyOfRange_39247 7 = .ok (.if_icmp .eq 10, 3) := by decide +kernel
theorem dJ7_copyOfRange_39247_10 : decode cJ7_copyOfRange_39247 10 = .ok (.aload_n 0, 1) := by decide +kernel
theorem dJ7_copyOfRange_39247_11 : decode cJ7_copyOfRange_39247 11 = .ok (.iload_n 1, 1) := by decide +kernel
theorem dJ7_copyOfRange_39247_12 : decode cJ7_copyOfRange_39247 12 = .ok (.iload_n 2, 1) := by decide +kernel
theorem dJ7_copyOfRange_39247_13 : decode cJ7_copyOfRange_39247 13 = .ok (.invokestatic 339, 3) := by decide +kernel
theorem dJ7_copyOfRange_39247_16 : decode cJ7_copyOfRange_39247 16 = .ok (.areturn, 1) := by decide +kernel
theorem dJ7_copyOfRange_39247_17 : decode cJ7_copyOfRange_39247 17 = .ok (.aload_n 0, 1) := by decide +kernel
theorem dJ7_copyOfRange_39247_18 : decode cJ7_copyOfRange_39247 18 = .ok (.invokevirtual 310, 3) := by decide +kernel
theorem dJ7_copyOfRange_39247_21 : decode cJ7_copyOfRange_39247 21 = .ok (.checkcast 311, 3) := by decide +kernel
theorem dJ7_copyOfRange_39247_24 : decode cJ7_copyOfRange_39247 24 = .ok (.areturn, 1) := by decide +kernel
theorem dJ7_copyOfRangeByte_39247_0 : decode cJ7_copyOfRangeByte_39247 0 = .ok (.iload_n 1, 1) := by decide +kernel
theorem dJ7_copyOfRangeByte_39247_1 : decode cJ7_copyOfRangeByte_39247 1 = .ok (.iload_n 2, 1) := by decide +kernel
theorem dJ7_copyOfRangeByte_39247_2 : decode cJ7_copyOfRangeByte_39247 2 = .ok (.invokestatic 343, 3) := by decide +kernel
theorem dJ7_copyOfRangeByte_39247_5 : decode cJ7_copyOfRangeByte_39247 5 = .ok (.iload_n 2, 1) := by decide +kernel
theorem dJ7_copyOfRangeByte_39247_6 : decode cJ7_copyOfRangeByte_39247 6 = .ok (.iload_n 1, 1) := by decide +kernel
theorem dJ7_copyOfRangeByte_39247_7 : decode cJ7_copyOfRangeByte_39247 7 = .ok (.isub, 1) := by decide +kernel
theorem dJ7_copyOfRangeByte_39247_8 : decode cJ7_copyOfRangeByte_39247 8 = .ok (.istore_n 3, 1) := by decide +kernel
theorem dJ7_copyOfRangeByte_39247_9 : decode cJ7_copyOfRangeByte_39247 9 = .ok (.iload_n 3, 1) := by decide +kernel
theorem dJ7_copyOfRangeByte_39247_10 : decode cJ7_copyOfRangeByte_39247 10 = .ok (.newarray .byte, 2) := by decide +kernel
theorem dJ7_copyOfRangeByte_39247_12 : decode cJ7_copyOfRangeByte_39247 12 = .ok (.astore 4, 2) := by decide +kernel
theorem dJ7_copyOfRangeByte_39247_14 : decode cJ7_copyOfRangeByte_39247 14 = .ok (.aload_n 0, 1) := by decide +kernel
theorem dJ7_copyOfRangeByte_39247_15 : decode cJ7_copyOfRangeByte_39247 15 = .ok (.iload_n 1, 1) := by decide +kernel
theorem dJ7_copyOfRangeByte_39247_16 : decode cJ7_copyOfRangeByte_39247 16 = .ok (.aload 4, 2) := by decide +kernel
theorem dJ7_copyOfRangeByte_39247_18 : decode cJ7_copyOfRangeByte_39247 18 = .ok (.iconst 0, 1) := by decide +kernel
theorem dJ7_copyOfRangeByte_39247_19 : decode cJ7_copyOfRangeByte_39247 19 = .ok (.aload_n 0, 1) := by decide +kernel
theorem dJ7_copyOfRangeByte_39247_20 : decode cJ7_copyOfRangeByte_39247 20 = .ok (.arraylength, 1) := by decide +kernel
theorem dJ7_copyOfRangeByte_39247_21 : decode cJ7_copyOfRangeByte_39247 21 = .ok (.iload_n 1, 1) := by decide +kernel
theorem dJ7_copyOfRangeByte_39247_22 : decode cJ7_copyOfRangeByte_39247 22 = .ok (.isub, 1) := by decide +kernel
theorem dJ7_copyOfRangeByte_39247_23 : decode cJ7_copyOfRangeByte_39247 23 = .ok (.iload_n 3, 1) := by decide +kernel
theorem dJ7_copyOfRangeByte_39247_24 : decode cJ7_copyOfRangeByte_39247 24 = .ok (.invokestatic 304, 3) := by decide +kernel
theorem dJ7_copyOfRangeByte_39247_27 : decode cJ7_copyOfRangeByte_39247 27 = .ok (.invokestatic 150, 3) := by decide +kernel
theorem dJ7_copyOfRangeByte_39247_30 : decode cJ7_copyOfRangeByte_39247 30 = .ok (.aload 4, 2) := by decide +kernel
theorem dJ7_copyOfRangeByte_39247_32 : decode cJ7_copyOfRangeByte_39247 32 = .ok (.areturn, 1) := by decide +kernel
theorem dJ8_newLength_cabcc_0 : decode cJ8_newLength_cabcc 0 = .ok (.iload_n 0, 1) := by decide +kernel
theorem dJ8_newLength_cabcc_1 : decode cJ8_newLength_cabcc 1 = .ok (.iload_n 1, 1) := by decide +kernel
theorem dJ8_newLength_cabcc_2 : decode cJ8_newLength_cabcc 2 = .ok (.iload_n 2, 1) := by decide +kernel
theorem dJ8_newLength_cabcc_3 : decode cJ8_newLength_cabcc 3 = .ok (.invokestatic 194, 3) := by decide +kernel
theorem dJ8_newLength_cabcc_6 : decode cJ8_newLength_cabcc 6 = .ok (.iadd, 1) := by decide +kernel
theorem dJ8_newLength_cabcc_7 : decode cJ8_newLength_cabcc 7 = .ok (.istore_n 3, 1) := by decide +kernel
theorem dJ8_newLength_cabcc_8 : decode cJ8_newLength_cabcc 8 = .ok (.iconst 0, 1) := by decide +kernel
theorem dJ8_newLength_cabcc_9 : decode cJ8_newLength_cabcc 9 = .ok (.iload_n 3, 1) := by decide +kernel
theorem dJ8_newLength_cabcc_10 : decode cJ8_newLength_cabcc 10 = .ok (.if_icmp .ge 11, 3) := by decide +kernel
theorem dJ8_newLength_cabcc_13 : decode cJ8_newLength_cabcc 13 = .ok (.iload_n 3, 1) := by decide +kernel
theorem dJ8_newLength_cabcc_14 : decode cJ8_newLength_cabcc 14 = .ok (.ldc 200, 2) := by decide +kernel
theorem dJ8_newLength_cabcc_16 : decode cJ8_newLength_cabcc 16 = .ok (.if_icmp .gt 5, 3) := by decide +kernel
theorem dJ8_newLength_cabcc_19 : decode cJ8_newLength_cabcc 19 = .ok (.iload_n 3, 1) := by decide +kernel
theorem dJ8_newLength_cabcc_20 : decode cJ8_newLength_cabcc 20 = .ok (.ireturn, 1) := by decide +kernel
theorem dJ8_newLength_cabcc_21 : decode cJ8_newLength_cabcc 21 = .ok (.iload_n 0, 1) := by decide +kernel
theorem dJ8_newLength_cabcc_22 : decode cJ8_newLength_cabcc 22 = .ok (.iload_n 1, 1) := by decide +kernel
theorem dJ8_newLength_cabcc_23 : decode cJ8_newLength_cabcc 23 = .ok (.invokestatic 201, 3) := by decide +kernel
theorem dJ8_newLength_cabcc_26 : decode cJ8_newLength_cabcc 26 = .ok (.ireturn, 1) := by decide +kernel
theorem dJ8_hugeLength_7cf53_0 : decode cJ8_hugeLength_7cf53 0 = .ok (.iload_n 0, 1) := by decide +kernel
theorem dJ8_hugeLength_7cf53_1 : decode cJ8_hugeLength_7cf53 1 = .ok (.iload_n 1, 1) := by decide +kernel
theorem dJ8_hugeLength_7cf53_2 : decode cJ8_hugeLength_7cf53 2 = .ok (.iadd, 1) := by decide +kernel
theorem dJ8_hugeLength_7cf53_3 : decode cJ8_hugeLength_7cf53 3 = .ok (.istore_n 2, 1) := by decide +kernel
theorem dJ8_hugeLength_7cf53_4 : decode cJ8_hugeLength_7cf53 4 = .ok (.iload_n 2, 1) := by decide +kernel
theorem dJ8_hugeLength_7cf53_5 : decode cJ8_hugeLength_7cf53 5 = .ok (.ifCond .ge 44, 3) := by decide +kernel
theorem dJ8_hugeLength_7cf53_8 : decode cJ8_hugeLength_7cf53 8 = .ok (.new 204, 3) := by decide +kernel
theorem dJ8_hugeLength_7cf53_11 : decode cJ8_hugeLength_7cf53 11 = .ok (.dup, 1) := by decide +kernel
theorem dJ8_hugeLength_7cf53_12 : decode cJ8_hugeLength_7cf53 12 = .ok (.new 89, 3) := by decide +kernel
theorem dJ8_hugeLength_7cf53_15 : decode cJ8_hugeLength_7cf53 15 = .ok (.dup, 1) := by decide +kernel
theorem dJ8_hugeLength_7cf53_16 : decode cJ8_hugeLength_7cf53 16 = .ok (.invokespecial 91, 3) := by decide +kernel
theorem dJ8_hugeLength_7cf53_19 : decode cJ8_hugeLength_7cf53 19 = .ok (.ldc 206, 2) := by decide +kernel
theorem dJ8_hugeLength_7cf53_21 : decode cJ8_hugeLength_7cf53 21 = .ok (.invokevirtual 94, 3) := by decide +kernel
theorem dJ8_hugeLength_7cf53_24 : decode cJ8_hugeLength_7cf53 24 = .ok (.iload_n 0, 1) := by decide +kernel
theorem dJ8_hugeLength_7cf53_25 : decode cJ8_hugeLength_7cf53 25 = .ok (.invokevirtual 98, 3) := by decide +kernel
theorem dJ8_hugeLength_7cf53_28 : decode cJ8_hugeLength_7cf53 28 = .ok (.ldc 208, 2) := by decide +kernel
theorem dJ8_hugeLength_7cf53_30 : decode cJ8_hugeLength_7cf53 30 = .ok (.invokevirtual 94, 3) := by decide +kernel
theorem dJ8_hugeLength_7cf53_33 : decode cJ8_hugeLength_7cf53 33 = .ok (.iload_n 1, 1) := by decide +kernel
theorem dJ8_hugeLength_7cf53_34 : decode cJ8_hugeLength_7cf53 34 = .ok (.invokevirtual 98, 3) := by decide +kernel
theorem dJ8_hugeLength_7cf53_37 : decode cJ8_hugeLength_7cf53 37 = .ok (.ldc 210, 2) := by decide +kernel
theorem dJ8_hugeLength_7cf53_39 : decode cJ8_hugeLength_7cf53 39 = .ok (.invokevirtual 94, 3) := by decide +kernel
theorem dJ8_hugeLength_7cf53_42 : decode cJ8_hugeLength_7cf53 42 = .ok (.invokevirtual 101, 3) := by decide +kernel
theorem dJ8_hugeLength_7cf53_45 : decode cJ8_hugeLength_7cf53 45 = .ok (.invokespecial 212, 3) := by decide +kernel
theorem dJ8_hugeLength_7cf53_48 : decode cJ8_hugeLength_7cf53 48 = .ok (.athrow, 1) := by decide +kernel
theorem dJ8_hugeLength_7cf53_49 : decode cJ8_hugeLength_7cf53 49 = .ok (.iload_n 2, 1) := by decide +kernel
theorem dJ8_hugeLength_7cf53_50 : decode cJ8_hugeLength_7cf53 50 = .ok (.ldc 200, 2) := by decide +kernel
theorem dJ8_hugeLength_7cf53_52 : decode cJ8_hugeLength_7cf53 52 = .ok (.if_icmp .gt 6, 3) := by decide +kernel
theorem dJ8_hugeLength_7cf53_55 : decode cJ8_hugeLength_7cf53 55 = .ok (.ldc 200, 2) := by decide +kernel
theorem dJ8_hugeLength_7cf53_57 : decode cJ8_hugeLength_7cf53 57 = .ok (.ireturn, 1) := by decide +kernel
theorem dJ8_hugeLength_7cf53_58 : decode cJ8_hugeLength_7cf53 58 = .ok (.iload_n 2, 1) := by decide +kernel
theorem dJ8_hugeLength_7cf53_59 : decode cJ8_hugeLength_7cf53 59 = .ok (.ireturn, 1) := by decide +kernel
theorem dJ3_checkIndex_8e157_0 : decode cJ3_checkIndex_8e157 0 = .ok (.iload_n 0, 1) := by decide +kernel
theorem dJ3_checkIndex_8e157_1 : decode cJ3_checkIndex_8e157 1 = .ok (.ifCond .lt 8, 3) := by decide +kernel
theorem dJ3_checkIndex_8e157_4 : decode cJ3_checkIndex_8e157 4 = .ok (.iload_n 0, 1) := by decide +kernel
theorem dJ3_checkIndex_8e157_5 : decode cJ3_checkIndex_8e157 5 = .ok (.iload_n 1, 1) := by decide +kernel
theorem dJ3_checkIndex_8e157_6 : decode cJ3_checkIndex_8e157 6 = .ok (.if_icmp .lt 10, 3) := by decide +kernel
theorem dJ3_checkIndex_8e157_9 : decode cJ3_checkIndex_8e157 9 = .ok (.aload_n 2, 1) := by decide +kernel
theorem dJ3_checkIndex_8e157_10 : decode cJ3_checkIndex_8e157 10 = .ok (.iload_n 0, 1) := by decide +kernel
theorem dJ3_checkIndex_8e157_11 : decode cJ3_checkIndex_8e157 11 = .ok (.iload_n 1, 1) := by decide +kernel
theorem dJ3_checkIndex_8e157_12 : decode cJ3_checkIndex_8e157 12 = .ok (.invokestatic 95, 3) := by decide +kernel
theorem dJ3_checkIndex_8e157_15 : decode cJ3_checkIndex_8e157 15 = .ok (.athrow, 1) := by decide +kernel
theorem dJ3_checkIndex_8e157_16 : decode cJ3_checkIndex_8e157 16 = .ok (.iload_n 0, 1) := by decide +kernel
theorem dJ3_checkIndex_8e157_17 : decode cJ3_checkIndex_8e157 17 = .ok (.ireturn, 1) := by decide +kernel
theorem dJ3_checkFromToIndex_8c36e_0 : decode cJ3_checkFromToIndex_8c36e 0 = .ok (.iload_n 0, 1) := by decide +kernel
theorem dJ3_checkFromToIndex_8c36e_1 : decode cJ3_checkFromToIndex_8c36e 1 = .ok (.ifCond .lt 13, 3) := by decide +kernel
theorem dJ3_checkFromToIndex_8c36e_4 : decode cJ3_checkFromToIndex_8c36e 4 = .ok (.iload_n 0, 1) := by decide +kernel
theorem dJ3_checkFromToIndex_8c36e_5 : decode cJ3_checkFromToIndex_8c36e 5 = .ok (.iload_n 1, 1) := by decide +kernel
theorem dJ3_checkFromToIndex_8c36e_6 : decode cJ3_checkFromToIndex_8c36e 6 = .ok (.if_icmp .gt 8, 3) := by decide +kernel
theorem dJ3_checkFromToIndex_8c36e_9 : decode cJ3_checkFromToIndex_8c36e 9 = .ok (.iload_n 1, 1) := by decide +kernel
theorem dJ3_checkFromToIndex_8c36e_10 : decode cJ3_checkFromToIndex_8c36e 10 = .ok (.iload_n 2, 1) := by decide +kernel
theorem dJ3_checkFromToIndex_8c36e_11 : decode cJ3_checkFromToIndex_8c36e 11 = .ok (.if_icmp .le 11, 3) := by decide +kernel
theorem dJ3_checkFromToIndex_8c36e_14 : decode cJ3_checkFromToIndex_8c36e 14 = .ok (.aload_n 3, 1) := by decide +kernel
theorem dJ3_checkFromToIndex_8c36e_15 : decode cJ3_checkFromToIndex_8c36e 15 = .ok (.iload_n 0, 1) := by decide +kernel
theorem dJ3_checkFromToIndex_8c36e_16 : decode cJ3_checkFromToIndex_8c36e 16 = .ok (.iload_n 1, 1) := by decide +kernel
theorem dJ3_checkFromToIndex_8c36e_17 : decode cJ3_checkFromToIndex_8c36e 17 = .ok (.iload_n 2, 1) := by decide +kernel
theorem dJ3_checkFromToIndex_8c36e_18 : decode cJ3_checkFromToIndex_8c36e 18 = .ok (.invokestatic 99, 3) := by decide +kernel
theorem dJ3_checkFromToIndex_8c36e_21 : decode cJ3_checkFromToIndex_8c36e 21 = .ok (.athrow, 1) := by decide +kernel
theorem dJ3_checkFromToIndex_8c36e_22 : decode cJ3_checkFromToIndex_8c36e 22 = .ok (.iload_n 0, 1) := by decide +kernel
theorem dJ3_checkFromToIndex_8c36e_23 : decode cJ3_checkFromToIndex_8c36e 23 = .ok (.ireturn, 1) := by decide +kernel
theorem dJ3_checkFromIndexSize_8c36e_0 : decode cJ3_checkFromIndexSize_8c36e 0 = .ok (.iload_n 2, 1) := by decide +kernel
theorem dJ3_checkFromIndexSize_8c36e_1 : decode cJ3_checkFromIndexSize_8c36e 1 = .ok (.iload_n 0, 1) := by decide +kernel
theorem dJ3_checkFromIndexSize_8c36e_2 : decode cJ3_checkFromIndexSize_8c36e 2 = .ok (.ior, 1) := by decide +kernel
theorem dJ3_checkFromIndexSize_8c36e_3 : decode cJ3_checkFromIndexSize_8c36e 3 = .ok (.iload_n 1, 1) := by decide +kernel
theorem dJ3_checkFromIndexSize_8c36e_4 : decode cJ3_checkFromIndexSize_8c36e 4 = .ok (.ior, 1) := by decide +kernel
theorem dJ3_checkFromIndexSize_8c36e_5 : decode cJ3_checkFromIndexSize_8c36e 5 = .ok (.ifCond .lt 10, 3) := by decide +kernel
theorem dJ3_checkFromIndexSize_8c36e_8 : decode cJ3_checkFromIndexSize_8c36e 8 = .ok (.iload_n 1, 1) := by decide +kernel
theorem dJ3_checkFromIndexSize_8c36e_9 : decode cJ3_checkFromIndexSize_8c36e 9 = .ok (.iload_n 2, 1) := by decide +kernel
theorem dJ3_checkFromIndexSize_8c36e_10 : decode cJ3_checkFromIndexSize_8c36e 10 = .ok (.iload_n 0, 1) := by decide +kernel
theorem dJ3_checkFromIndexSize_8c36e_11 : decode cJ3_checkFromIndexSize_8c36e 11 = .ok (.isub, 1) := by decide +kernel
theorem dJ3_checkFromIndexSize_8c36e_12 : decode cJ3_checkFromIndexSize_8c36e 12 = .ok (.if_icmp .le 11, 3) := by decide +kernel
theorem dJ3_checkFromIndexSize_8c36e_15 : decode cJ3_checkFromIndexSize_8c36e 15 = .ok (.aload_n 3, 1) := by decide +kernel
theorem dJ3_checkFromIndexSize_8c36e_16 : decode cJ3_checkFromIndexSize_8c36e 16 = .ok (.iload_n 0, 1) := by decide +kernel
theorem dJ3_checkFromIndexSize_8c36e_17 : decode cJ3_checkFromIndexSize_8c36e 17 = .ok (.iload_n 1, 1) := by decide +kernel
theorem dJ3_checkFromIndexSize_8c36e_18 : decode cJ3_checkFromIndexSize_8c36e 18 = .ok (.iload_n 2, 1) := by decide +kernel
theorem dJ3_checkFromIndexSize_8c36e_19 : decode cJ3_checkFromIndexSize_8c36e 19 = .ok (.invokestatic 103, 3) := by decide +kernel
theorem dJ3_checkFromIndexSize_8c36e_22 : decode cJ3_checkFromIndexSize_8c36e 22 = .ok (.athrow, 1) := by decide +kernel
theorem dJ3_checkFromIndexSize_8c36e_23 : decode cJ3_checkFromIndexSize_8c36e 23 = .ok (.iload_n 0, 1) := by decide +kernel
theorem dJ3_checkFromIndexSize_8c36e_24 : decode cJ3_checkFromIndexSize_8c36e 24 = .ok (.ireturn, 1) := by decide +kernel
theorem dL_init_0 : decode cL_init 0 = .ok (.aload_n 0, 1) := by decide +kernel
theorem dL_init_1 : decode cL_init 1 = .ok (.invokespecial 1, 3) := by decide +kernel
theorem dL_init_4 : decode cL_init 4 = .ok (.aload_n 0, 1) := by decide +kernel
theorem dL_init_5 : decode cL_init 5 = .ok (.new 7, 3) := by decide +kernel
theorem dL_init_8 : decode cL_init 8 = .ok (.dup, 1) := by decide +kernel
theorem dL_init_9 : decode cL_init 9 = .ok (.invokespecial 9, 3) := by decide +kernel
theorem dL_init_12 : decode cL_init 12 = .ok (.putfield 10, 3) := by decide +kernel
theorem dL_init_15 : decode cL_init 15 = .ok (.aload_n 0, 1) := by decide +kernel
theorem dL_init_16 : decode cL_init 16 = .ok (.bipush 8, 2) := by decide +kernel
theorem dL_init_18 : decode cL_init 18 = .ok (.newarray .int, 2) := by decide +kernel
theorem dL_init_20 : decode cL_init 20 = .ok (.putfield 16, 3) := by decide +kernel
theorem dL_init_23 : decode cL_init 23 = .ok (.aload_n 0, 1) := by decide +kernel
theorem dL_init_24 : decode cL_init 24 = .ok (.bipush 8, 2) := by decide +kernel
theorem dL_init_26 : decode cL_init 26 = .ok (.newarray .int, 2) := by decide +kernel
theorem dL_init_28 : decode cL_init 28 = .ok (.putfield 20, 3) := by decide +kernel
theorem dL_init_31 : decode cL_init 31 = .ok (.aload_n 0, 1) := by decide +kernel
theorem dL_init_32 : decode cL_init 32 = .ok (.bipush 6, 2) := by decide +kernel
theorem dL_init_34 : decode cL_init 34 = .ok (.newarray .int, 2) := by decide +kernel
theorem dL_init_36 : decode cL_init 36 = .ok (.putfield 23, 3) := by decide +kernel
theorem dL_init_39 : decode cL_init 39 = .ok (.return_, 1) := by decide +kernel
theorem dL_at_0 : decode cL_at 0 = .ok (.iload_n 1, 1) := by decide +kernel
theorem dL_at_1 : decode cL_at 1 = .ok (.aload_n 0, 1) := by decide +kernel
theorem dL_at_2 : decode cL_at 2 = .ok (.arraylength, 1) := by decide +kernel
theorem dL_at_3 : decode cL_at 3 = .ok (.if_icmp .ge 9, 3) := by decide +kernel
theorem dL_at_6 : decode cL_at 6 = .ok (.aload_n 0, 1) := by decide +kernel
theorem dL_at_7 : decode cL_at 7 = .ok (.iload_n 1, 1) := by decide +kernel
theorem dL_at_8 : decode cL_at 8 = .ok (.iaload, 1) := by decide +kernel
theorem dL_at_9 : decode cL_at 9 = .ok (.goto 4, 3) := by decide +kernel
theorem dL_at_12 : decode cL_at 12 = .ok (.iconst 0, 1) := by decide +kernel
theorem dL_at_13 : decode cL_at 13 = .ok (.istore_n 2, 1) := by decide +kernel
theorem dL_at_14 : decode cL_at 14 = .ok (.iload_n 2, 1) := by decide +kernel
theorem dL_at_15 : decode cL_at 15 = .ok (.ifCond .le 22, 3) := by decide +kernel
theorem dL_at_18 : decode cL_at 18 = .ok (.iload_n 2, 1) := by decide +kernel
theorem dL_at_19 : decode cL_at 19 = .ok (.sipush 512, 3) := by decide +kernel
theorem dL_at_22 : decode cL_at 22 = .ok (.if_icmp .ge 15, 3) := by decide +kernel
theorem dL_at_25 : decode cL_at 25 = .ok (.iload_n 2, 1) := by decide +kernel
theorem dL_at_26 : decode cL_at 26 = .ok (.ldc 26, 2) := by decide +kernel
theorem dL_at_28 : decode cL_at 28 = .ok (.imul, 1) := by decide +kernel
theorem dL_at_29 : decode cL_at 29 = .ok (.iload_n 1, 1) := by decide +kernel
theorem dL_at_30 : decode cL_at 30 = .ok (.ldc 27, 2) := by decide +kernel
theorem dL_at_32 : decode cL_at 32 = .ok (.imul, 1) := by decide +kernel
theorem dL_at_33 : decode cL_at 33 = .ok (.ixor, 1) := by decide +kernel
theorem dL_at_34 : decode cL_at 34 = .ok (.goto 4, 3) := by decide +kernel
theorem dL_at_37 : decode cL_at 37 = .ok (.iload_n 2, 1) := by decide +kernel
theorem dL_at_38 : decode cL_at 38 = .ok (.ireturn, 1) := by decide +kernel
theorem dL_draw_0 : decode cL_draw 0 = .ok (.aload_n 0, 1) := by decide +kernel
theorem dL_draw_1 : decode cL_draw 1 = .ok (.getfield 28, 3) := by decide +kernel
theorem dL_draw_4 : decode cL_draw 4 = .ok (.aload_n 0, 1) := by decide +kernel
theorem dL_draw_5 : decode cL_draw 5 = .ok (.getfield 31, 3) := by decide +kernel
theorem dL_draw_8 : decode cL_draw 8 = .ok (.iconst 1, 1) := by decide +kernel
theorem dL_draw_9 : decode cL_draw 9 = .ok (.aload_n 0, 1) := by decide +kernel
theorem dL_draw_10 : decode cL_draw 10 = .ok (.getfield 28, 3) := by decide +kernel
theorem dL_draw_13 : decode cL_draw 13 = .ok (.arraylength, 1) := by decide +kernel
theorem dL_draw_14 : decode cL_draw 14 = .ok (.invokestatic 35, 3) := by decide +kernel
theorem dL_draw_17 : decode cL_draw 17 = .ok (.irem, 1) := by decide +kernel
theorem dL_draw_18 : decode cL_draw 18 = .ok (.invokestatic 41, 3) := by decide +kernel
theorem dL_draw_21 : decode cL_draw 21 = .ok (.aload_n 0, 1) := by decide +kernel
theorem dL_draw_22 : decode cL_draw 22 = .ok (.getfield 31, 3) := by decide +kernel
theorem dL_draw_25 : decode cL_draw 25 = .ok (.ldc 45, 2) := by decide +kernel
theorem dL_draw_27 : decode cL_draw 27 = .ok (.imul, 1) := by decide +kernel
theorem dL_draw_28 : decode cL_draw 28 = .ok (.iadd, 1) := by decide +kernel
theorem dL_draw_29 : decode cL_draw 29 = .ok (.istore_n 2, 1) := by decide +kernel
theorem dL_draw_30 : decode cL_draw 30 = .ok (.aload_n 0, 1) := by decide +kernel
theorem dL_draw_31 : decode cL_draw 31 = .ok (.dup, 1) := by decide +kernel
theorem dL_draw_32 : decode cL_draw 32 = .ok (.getfield 31, 3) := by decide +kernel
theorem dL_draw_35 : decode cL_draw 35 = .ok (.iconst 1, 1) := by decide +kernel
theorem dL_draw_36 : decode cL_draw 36 = .ok (.iadd, 1) := by decide +kernel
theorem dL_draw_37 : decode cL_draw 37 = .ok (.putfield 31, 3) := by decide +kernel
theorem dL_draw_40 : decode cL_draw 40 = .ok (.iload_n 2, 1) := by decide +kernel
theorem dL_draw_41 : decode cL_draw 41 = .ok (.iload_n 2, 1) := by decide +kernel
theorem dL_draw_42 : decode cL_draw 42 = .ok (.bipush 15, 2) := by decide +kernel
theorem dL_draw_44 : decode cL_draw 44 = .ok (.iushr, 1) := by decide +kernel
theorem dL_draw_45 : decode cL_draw 45 = .ok (.ixor, 1) := by decide +kernel
theorem dL_draw_46 : decode cL_draw 46 = .ok (.istore_n 2, 1) := by decide +kernel
theorem dL_draw_47 : decode cL_draw 47 = .ok (.iload_n 2, 1) := by decide +kernel
theorem dL_draw_48 : decode cL_draw 48 = .ok (.ldc 46, 2) := by decide +kernel
theorem dL_draw_50 : decode cL_draw 50 = .ok (.imul, 1) := by decide +kernel
theorem dL_draw_51 : decode cL_draw 51 = .ok (.istore_n 2, 1) := by decide +kernel
theorem dL_draw_52 : decode cL_draw 52 = .ok (.iload_n 2, 1) := by decide +kernel
theorem dL_draw_53 : decode cL_draw 53 = .ok (.iload_n 2, 1) := by decide +kernel
theorem dL_draw_54 : decode cL_draw 54 = .ok (.bipush 13, 2) := by decide +kernel
theorem dL_draw_56 : decode cL_draw 56 = .ok (.iushr, 1) := by decide +kernel
theorem dL_draw_57 : decode cL_draw 57 = .ok (.ixor, 1) := by decide +kernel
theorem dL_draw_58 : decode cL_draw 58 = .ok (.istore_n 2, 1) := by decide +kernel
theorem dL_draw_59 : decode cL_draw 59 = .ok (.iload_n 2, 1) := by decide +kernel
theorem dL_draw_60 : decode cL_draw 60 = .ok (.ldc 47, 2) := by decide +kernel
theorem dL_draw_62 : decode cL_draw 62 = .ok (.iand, 1) := by decide +kernel
theorem dL_draw_63 : decode cL_draw 63 = .ok (.iload_n 1, 1) := by decide +kernel
theorem dL_draw_64 : decode cL_draw 64 = .ok (.irem, 1) := by decide +kernel
theorem dL_draw_65 : decode cL_draw 65 = .ok (.ireturn, 1) := by decide +kernel
theorem dL_put_0 : decode cL_put 0 = .ok (.aload_n 0, 1) := by decide +kernel
theorem dL_put_1 : decode cL_put 1 = .ok (.getfield 10, 3) := by decide +kernel
theorem dL_put_4 : decode cL_put 4 = .ok (.iconst 0, 1) := by decide +kernel
theorem dL_put_5 : decode cL_put 5 = .ok (.invokevirtual 48, 3) := by decide +kernel
theorem dL_put_8 : decode cL_put 8 = .ok (.pop, 1) := by decide +kernel
theorem dL_put_9 : decode cL_put 9 = .ok (.iconst 0, 1) := by decide +kernel
theorem dL_put_10 : decode cL_put 10 = .ok (.istore_n 2, 1) := by decide +kernel
theorem dL_put_11 : decode cL_put 11 = .ok (.iload_n 2, 1) := by decide +kernel
theorem dL_put_12 : decode cL_put 12 = .ok (.aload_n 1, 1) := by decide +kernel
theorem dL_put_13 : decode cL_put 13 = .ok (.invokevirtual 52, 3) := by decide +kernel
theorem dL_put_16 : decode cL_put 16 = .ok (.if_icmp .ge 68, 3) := by decide +kernel
theorem dL_put_19 : decode cL_put 19 = .ok (.iconst 0, 1) := by decide +kernel
theorem dL_put_20 : decode cL_put 20 = .ok (.istore_n 3, 1) := by decide +kernel
theorem dL_put_21 : decode cL_put 21 = .ok (.iconst 0, 1) := by decide +kernel
theorem dL_put_22 : decode cL_put 22 = .ok (.istore 4, 2) := by decide +kernel
theorem dL_put_24 : decode cL_put 24 = .ok (.iload 4, 2) := by decide +kernel
theorem dL_put_26 : decode cL_put 26 = .ok (.iconst 4, 1) := by decide +kernel
theorem dL_put_27 : decode cL_put 27 = .ok (.if_icmp .ge 42, 3) := by decide +kernel
theorem dL_put_30 : decode cL_put 30 = .ok (.iload_n 3, 1) := by decide +kernel
theorem dL_put_31 : decode cL_put 31 = .ok (.bipush 8, 2) := by decide +kernel
theorem dL_put_33 : decode cL_put 33 = .ok (.ishl, 1) := by decide +kernel
theorem dL_put_34 : decode cL_put 34 = .ok (.iload_n 2, 1) := by decide +kernel
theorem dL_put_35 : decode cL_put 35 = .ok (.iload 4, 2) := by decide +kernel
theorem dL_put_37 : decode cL_put 37 = .ok (.iadd, 1) := by decide +kernel
theorem dL_put_38 : decode cL_put 38 = .ok (.aload_n 1, 1) := by decide +kernel
theorem dL_put_39 : decode cL_put 39 = .ok (.invokevirtual 52, 3) := by decide +kernel
theorem dL_put_42 : decode cL_put 42 = .ok (.if_icmp .ge 18, 3) := by decide +kernel
theorem dL_put_45 : decode cL_put 45 = .ok (.aload_n 1, 1) := by decide +kernel
theorem dL_put_46 : decode cL_put 46 = .ok (.iload_n 2, 1) := by decide +kernel
theorem dL_put_47 : decode cL_put 47 = .ok (.iload 4, 2) := by decide +kernel
theorem dL_put_49 : decode cL_put 49 = .ok (.iadd, 1) := by decide +kernel
theorem dL_put_50 : decode cL_put 50 = .ok (.invokevirtual 58, 3) := by decide +kernel
theorem dL_put_53 : decode cL_put 53 = .ok (.sipush 255, 3) := by decide +kernel
theorem dL_put_56 : decode cL_put 56 = .ok (.iand, 1) := by decide +kernel
theorem dL_put_57 : decode cL_put 57 = .ok (.goto 4, 3) := by decide +kernel
theorem dL_put_60 : decode cL_put 60 = .ok (.iconst 0, 1) := by decide +kernel
theorem dL_put_61 : decode cL_put 61 = .ok (.ior, 1) := by decide +kernel
theorem dL_put_62 : decode cL_put 62 = .ok (.istore_n 3, 1) := by decide +kernel
theorem dL_put_63 : decode cL_put 63 = .ok (.iinc 4 1, 3) := by decide +kernel
theorem dL_put_66 : decode cL_put 66 = .ok (.goto (-42), 3) := by decide +kernel
theorem dL_put_69 : decode cL_put 69 = .ok (.aload_n 0, 1) := by decide +kernel
theorem dL_put_70 : decode cL_put 70 = .ok (.getfield 10, 3) := by decide +kernel
theorem dL_put_73 : decode cL_put 73 = .ok (.iload_n 3, 1) := by decide +kernel
theorem dL_put_74 : decode cL_put 74 = .ok (.invokevirtual 62, 3) := by decide +kernel
theorem dL_put_77 : decode cL_put 77 = .ok (.pop, 1) := by decide +kernel
theorem dL_put_78 : decode cL_put 78 = .ok (.iinc 2 4, 3) := by decide +kernel
theorem dL_put_81 : decode cL_put 81 = .ok (.goto (-70), 3) := by decide +kernel
theorem dL_put_84 : decode cL_put 84 = .ok (.aload_n 0, 1) := by decide +kernel
theorem dL_put_85 : decode cL_put 85 = .ok (.getfield 10, 3) := by decide +kernel
theorem dL_put_88 : decode cL_put 88 = .ok (.aload_n 1, 1) := by decide +kernel
theorem dL_put_89 : decode cL_put 89 = .ok (.invokevirtual 52, 3) := by decide +kernel
theorem dL_put_92 : decode cL_put 92 = .ok (.invokevirtual 48, 3) := by decide +kernel
theorem dL_put_95 : decode cL_put 95 = .ok (.pop, 1) := by decide +kernel
theorem dL_put_96 : decode cL_put 96 = .ok (.return_, 1) := by decide +kernel
theorem dL_builds_0 : decode cL_builds 0 = .ok (.iconst 1, 1) := by decide +kernel
theorem dL_builds_1 : decode cL_builds 1 = .ok (.aload_n 0, 1) := by decide +kernel
theorem dL_builds_2 : decode cL_builds 2 = .ok (.bipush 12, 2) := by decide +kernel
theorem dL_builds_4 : decode cL_builds 4 = .ok (.invokevirtual 65, 3) := by decide +kernel
theorem dL_builds_7 : decode cL_builds 7 = .ok (.iadd, 1) := by decide +kernel
theorem dL_builds_8 : decode cL_builds 8 = .ok (.istore_n 1, 1) := by decide +kernel
theorem dL_builds_9 : decode cL_builds 9 = .ok (.iconst 0, 1) := by decide +kernel
theorem dL_builds_10 : decode cL_builds 10 = .ok (.istore_n 2, 1) := by decide +kernel
theorem dL_builds_11 : decode cL_builds 11 = .ok (.iload_n 2, 1) := by decide +kernel
theorem dL_builds_12 : decode cL_builds 12 = .ok (.iload_n 1, 1) := by decide +kernel
theorem dL_builds_13 : decode cL_builds 13 = .ok (.if_icmp .ge 63, 3) := by decide +kernel
theorem dL_builds_16 : decode cL_builds 16 = .ok (.aload_n 0, 1) := by decide +kernel
theorem dL_builds_17 : decode cL_builds 17 = .ok (.getfield 10, 3) := by decide +kernel
theorem dL_builds_20 : decode cL_builds 20 = .ok (.bipush 50, 2) := by decide +kernel
theorem dL_builds_22 : decode cL_builds 22 = .ok (.aload_n 0, 1) := by decide +kernel
theorem dL_builds_23 : decode cL_builds 23 = .ok (.sipush 3000, 3) := by decide +kernel
theorem dL_builds_26 : decode cL_builds 26 = .ok (.invokevirtual 65, 3) := by decide +kernel
theorem dL_builds_29 : decode cL_builds 29 = .ok (.iadd, 1) := by decide +kernel
theorem dL_builds_30 : decode cL_builds 30 = .ok (.aload_n 0, 1) := by decide +kernel
theorem dL_builds_31 : decode cL_builds 31 = .ok (.ldc 68, 2) := by decide +kernel
theorem dL_builds_33 : decode cL_builds 33 = .ok (.invokevirtual 65, 3) := by decide +kernel
theorem dL_builds_36 : decode cL_builds 36 = .ok (.sipush 30000, 3) := by decide +kernel
theorem dL_builds_39 : decode cL_builds 39 = .ok (.isub, 1) := by decide +kernel
theorem dL_builds_40 : decode cL_builds 40 = .ok (.aload_n 0, 1) := by decide +kernel
theorem dL_builds_41 : decode cL_builds 41 = .ok (.sipush 400, 3) := by decide +kernel
theorem dL_builds_44 : decode cL_builds 44 = .ok (.invokevirtual 65, 3) := by decide +kernel
theorem dL_builds_47 : decode cL_builds 47 = .ok (.aload_n 0, 1) := by decide +kernel
theorem dL_builds_48 : decode cL_builds 48 = .ok (.sipush 400, 3) := by decide +kernel
theorem dL_builds_51 : decode cL_builds 51 = .ok (.invokevirtual 65, 3) := by decide +kernel
theorem dL_builds_54 : decode cL_builds 54 = .ok (.aload_n 0, 1) := by decide +kernel
theorem dL_builds_55 : decode cL_builds 55 = .ok (.sipush 9000, 3) := by decide +kernel
theorem dL_builds_58 : decode cL_builds 58 = .ok (.invokevirtual 65, 3) := by decide +kernel
theorem dL_builds_61 : decode cL_builds 61 = .ok (.invokevirtual 69, 3) := by decide +kernel
theorem dL_builds_64 : decode cL_builds 64 = .ok (.iload_n 2, 1) := by decide +kernel
theorem dL_builds_65 : decode cL_builds 65 = .ok (.if_icmp .eq 5, 3) := by decide +kernel
theorem dL_builds_68 : decode cL_builds 68 = .ok (.iconst 0, 1) := by decide +kernel
theorem dL_builds_69 : decode cL_builds 69 = .ok (.ireturn, 1) := by decide +kernel
theorem dL_builds_70 : decode cL_builds 70 = .ok (.iinc 2 1, 3) := by decide +kernel
theorem dL_builds_73 : decode cL_builds 73 = .ok (.goto (-62), 3) := by decide +kernel
theorem dL_builds_76 : decode cL_builds 76 = .ok (.aload_n 0, 1) := by decide +kernel
theorem dL_builds_77 : decode cL_builds 77 = .ok (.bipush 20, 2) := by decide +kernel
theorem dL_builds_79 : decode cL_builds 79 = .ok (.invokevirtual 65, 3) := by decide +kernel
theorem dL_builds_82 : decode cL_builds 82 = .ok (.istore_n 2, 1) := by decide +kernel
theorem dL_builds_83 : decode cL_builds 83 = .ok (.iload_n 2, 1) := by decide +kernel
theorem dL_builds_84 : decode cL_builds 84 = .ok (.ifCond .le 81, 3) := by decide +kernel
theorem dL_builds_87 : decode cL_builds 87 = .ok (.aload_n 0, 1) := by decide +kernel
theorem dL_builds_88 : decode cL_builds 88 = .ok (.iload_n 1, 1) := by decide +kernel
theorem dL_builds_89 : decode cL_builds 89 = .ok (.invokevirtual 65, 3) := by decide +kernel
theorem dL_builds_92 : decode cL_builds 92 = .ok (.istore_n 3, 1) := by decide +kernel
theorem dL_builds_93 : decode cL_builds 93 = .ok (.aload_n 0, 1) := by decide +kernel
theorem dL_builds_94 : decode cL_builds 94 = .ok (.iload_n 1, 1) := by decide +kernel
theorem dL_builds_95 : decode cL_builds 95 = .ok (.invokevirtual 65, 3) := by decide +kernel
theorem dL_builds_98 : decode cL_builds 98 = .ok (.istore 4, 2) := by decide +kernel
theorem dL_builds_100 : decode cL_builds 100 = .ok (.aload_n 0, 1) := by decide +kernel
theorem dL_builds_101 : decode cL_builds 101 = .ok (.sipush 3000, 3) := by decide +kernel
theorem dL_builds_104 : decode cL_builds 104 = .ok (.invokevirtual 65, 3) := by decide +kernel
theorem dL_builds_107 : decode cL_builds 107 = .ok (.istore 5, 2) := by decide +kernel
theorem dL_builds_109 : decode cL_builds 109 = .ok (.iload_n 3, 1) := by decide +kernel
theorem dL_builds_110 : decode cL_builds 110 = .ok (.iload 4, 2) := by decide +kernel
theorem dL_builds_112 : decode cL_builds 112 = .ok (.if_icmp .eq 47, 3) := by decide +kernel
theorem dL_builds_115 : decode cL_builds 115 = .ok (.aload_n 0, 1) := by decide +kernel
theorem dL_builds_116 : decode cL_builds 116 = .ok (.getfield 10, 3) := by decide +kernel
theorem dL_builds_119 : decode cL_builds 119 = .ok (.invokevirtual 73, 3) := by decide +kernel
theorem dL_builds_122 : decode cL_builds 122 = .ok (.bipush 24, 2) := by decide +kernel
theorem dL_builds_124 : decode cL_builds 124 = .ok (.if_icmp .ge 35, 3) := by decide +kernel
theorem dL_builds_127 : decode cL_builds 127 = .ok (.aload_n 0, 1) := by decide +kernel
theorem dL_builds_128 : decode cL_builds 128 = .ok (.getfield 10, 3) := by decide +kernel
theorem dL_builds_131 : decode cL_builds 131 = .ok (.iload_n 3, 1) := by decide +kernel
theorem dL_builds_132 : decode cL_builds 132 = .ok (.iload 4, 2) := by decide +kernel
theorem dL_builds_134 : decode cL_builds 134 = .ok (.iload 5, 2) := by decide +kernel
theorem dL_builds_136 : decode cL_builds 136 = .ok (.invokevirtual 76, 3) := by decide +kernel
theorem dL_builds_139 : decode cL_builds 139 = .ok (.ifCond .lt 18, 3) := by decide +kernel
theorem dL_builds_142 : decode cL_builds 142 = .ok (.aload_n 0, 1) := by decide +kernel
theorem dL_builds_143 : decode cL_builds 143 = .ok (.getfield 10, 3) := by decide +kernel
theorem dL_builds_146 : decode cL_builds 146 = .ok (.iload 4, 2) := by decide +kernel
theorem dL_builds_148 : decode cL_builds 148 = .ok (.iload_n 3, 1) := by decide +kernel
theorem dL_builds_149 : decode cL_builds 149 = .ok (.invokevirtual 80, 3) := by decide +kernel
theorem dL_builds_152 : decode cL_builds 152 = .ok (.iload 5, 2) := by decide +kernel
theorem dL_builds_154 : decode cL_builds 154 = .ok (.if_icmp .eq 5, 3) := by decide +kernel
theorem dL_builds_157 : decode cL_builds 157 = .ok (.iconst 0, 1) := by decide +kernel
theorem dL_builds_158 : decode cL_builds 158 = .ok (.ireturn, 1) := by decide +kernel
theorem dL_builds_159 : decode cL_builds 159 = .ok (.iinc 2 (-1), 3) := by decide +kernel
theorem dL_builds_162 : decode cL_builds 162 = .ok (.goto (-79), 3) := by decide +kernel
theorem dL_builds_165 : decode cL_builds 165 = .ok (.iconst 0, 1) := by decide +kernel
theorem dL_builds_166 : decode cL_builds 166 = .ok (.istore_n 2, 1) := by decide +kernel
theorem dL_builds_167 : decode cL_builds 167 = .ok (.iload_n 2, 1) := by decide +kernel
theorem dL_builds_168 : decode cL_builds 168 = .ok (.bipush 6, 2) := by decide +kernel
theorem dL_builds_170 : decode cL_builds 170 = .ok (.if_icmp .ge 81, 3) := by decide +kernel
theorem dL_builds_173 : decode cL_builds 173 = .ok (.aload_n 0, 1) := by decide +kernel
theorem dL_builds_174 : decode cL_builds 174 = .ok (.iconst 3, 1) := by decide +kernel
theorem dL_builds_175 : decode cL_builds 175 = .ok (.invokevirtual 65, 3) := by decide +kernel
theorem dL_builds_178 : decode cL_builds 178 = .ok (.ifCond .le 73, 3) := by decide +kernel
theorem dL_builds_181 : decode cL_builds 181 = .ok (.aload_n 0, 1) := by decide +kernel
theorem dL_builds_182 : decode cL_builds 182 = .ok (.getfield 23, 3) := by decide +kernel
theorem dL_builds_185 : decode cL_builds 185 = .ok (.iload_n 2, 1) := by decide +kernel
theorem dL_builds_186 : decode cL_builds 186 = .ok (.iconst 1, 1) := by decide +kernel
theorem dL_builds_187 : decode cL_builds 187 = .ok (.aload_n 0, 1) := by decide +kernel
theorem dL_builds_188 : decode cL_builds 188 = .ok (.sipush 400, 3) := by decide +kernel
theorem dL_builds_191 : decode cL_builds 191 = .ok (.invokevirtual 65, 3) := by decide +kernel
theorem dL_builds_194 : decode cL_builds 194 = .ok (.iadd, 1) := by decide +kernel
theorem dL_builds_195 : decode cL_builds 195 = .ok (.iastore, 1) := by decide +kernel
theorem dL_builds_196 : decode cL_builds 196 = .ok (.aload_n 0, 1) := by decide +kernel
theorem dL_builds_197 : decode cL_builds 197 = .ok (.getfield 10, 3) := by decide +kernel
theorem dL_builds_200 : decode cL_builds 200 = .ok (.aload_n 0, 1) := by decide +kernel
theorem dL_builds_201 : decode cL_builds 201 = .ok (.iload_n 1, 1) := by decide +kernel
theorem dL_builds_202 : decode cL_builds 202 = .ok (.invokevirtual 65, 3) := by decide +kernel
theorem dL_builds_205 : decode cL_builds 205 = .ok (.aload_n 0, 1) := by decide +kernel
theorem dL_builds_206 : decode cL_builds 206 = .ok (.sipush 3000, 3) := by decide +kernel
theorem dL_builds_209 : decode cL_builds 209 = .ok (.invokevirtual 65, 3) := by decide +kernel
theorem dL_builds_212 : decode cL_builds 212 = .ok (.aload_n 0, 1) := by decide +kernel
theorem dL_builds_213 : decode cL_builds 213 = .ok (.sipush 9000, 3) := by decide +kernel
theorem dL_builds_216 : decode cL_builds 216 = .ok (.invokevirtual 65, 3) := by decide +kernel
theorem dL_builds_219 : decode cL_builds 219 = .ok (.sipush 9000, 3) := by decide +kernel
theorem dL_builds_222 : decode cL_builds 222 = .ok (.aload_n 0, 1) := by decide +kernel
theorem dL_builds_223 : decode cL_builds 223 = .ok (.sipush 9000, 3) := by decide +kernel
theorem dL_builds_226 : decode cL_builds 226 = .ok (.invokevirtual 65, 3) := by decide +kernel
theorem dL_builds_229 : decode cL_builds 229 = .ok (.iadd, 1) := by decide +kernel
theorem dL_builds_230 : decode cL_builds 230 = .ok (.aload_n 0, 1) := by decide +kernel
theorem dL_builds_231 : decode cL_builds 231 = .ok (.getfield 23, 3) := by decide +kernel
theorem dL_builds_234 : decode cL_builds 234 = .ok (.iload_n 2, 1) := by decide +kernel
theorem dL_builds_235 : decode cL_builds 235 = .ok (.iaload, 1) := by decide +kernel
theorem dL_builds_236 : decode cL_builds 236 = .ok (.invokevirtual 83, 3) := by decide +kernel
theorem dL_builds_239 : decode cL_builds 239 = .ok (.iload_n 2, 1) := by decide +kernel
theorem dL_builds_240 : decode cL_builds 240 = .ok (.if_icmp .eq 5, 3) := by decide +kernel
theorem dL_builds_243 : decode cL_builds 243 = .ok (.iconst 0, 1) := by decide +kernel
theorem dL_builds_244 : decode cL_builds 244 = .ok (.ireturn, 1) := by decide +kernel
theorem dL_builds_245 : decode cL_builds 245 = .ok (.iinc 2 1, 3) := by decide +kernel
theorem dL_builds_248 : decode cL_builds 248 = .ok (.goto (-81), 3) := by decide +kernel
theorem dL_builds_251 : decode cL_builds 251 = .ok (.iconst 0, 1) := by decide +kernel
theorem dL_builds_252 : decode cL_builds 252 = .ok (.istore_n 2, 1) := by decide +kernel
theorem dL_builds_253 : decode cL_builds 253 = .ok (.iload_n 2, 1) := by decide +kernel
theorem dL_builds_254 : decode cL_builds 254 = .ok (.bipush 8, 2) := by decide +kernel
theorem dL_builds_256 : decode cL_builds 256 = .ok (.if_icmp .ge 90, 3) := by decide +kernel
theorem dL_builds_259 : decode cL_builds 259 = .ok (.aload_n 0, 1) := by decide +kernel
theorem dL_builds_260 : decode cL_builds 260 = .ok (.iconst 4, 1) := by decide +kernel
theorem dL_builds_261 : decode cL_builds 261 = .ok (.invokevirtual 65, 3) := by decide +kernel
theorem dL_builds_264 : decode cL_builds 264 = .ok (.ifCond .le 82, 3) := by decide +kernel
theorem dL_builds_267 : decode cL_builds 267 = .ok (.aload_n 0, 1) := by decide +kernel
theorem dL_builds_268 : decode cL_builds 268 = .ok (.getfield 16, 3) := by decide +kernel
theorem dL_builds_271 : decode cL_builds 271 = .ok (.iload_n 2, 1) := by decide +kernel
theorem dL_builds_272 : decode cL_builds 272 = .ok (.aload_n 0, 1) := by decide +kernel
theorem dL_builds_273 : decode cL_builds 273 = .ok (.bipush 10, 2) := by decide +kernel
theorem dL_builds_275 : decode cL_builds 275 = .ok (.invokevirtual 65, 3) := by decide +kernel
theorem dL_builds_278 : decode cL_builds 278 = .ok (.iastore, 1) := by decide +kernel
theorem dL_builds_279 : decode cL_builds 279 = .ok (.aload_n 0, 1) := by decide +kernel
theorem dL_builds_280 : decode cL_builds 280 = .ok (.getfield 20, 3) := by decide +kernel
theorem dL_builds_283 : decode cL_builds 283 = .ok (.iload_n 2, 1) := by decide +kernel
theorem dL_builds_284 : decode cL_builds 284 = .ok (.aload_n 0, 1) := by decide +kernel
theorem dL_builds_285 : decode cL_builds 285 = .ok (.sipush 6000, 3) := by decide +kernel
theorem dL_builds_288 : decode cL_builds 288 = .ok (.invokevirtual 65, 3) := by decide +kernel
theorem dL_builds_291 : decode cL_builds 291 = .ok (.iastore, 1) := by decide +kernel
theorem dL_builds_292 : decode cL_builds 292 = .ok (.aload_n 0, 1) := by decide +kernel
theorem dL_builds_293 : decode cL_builds 293 = .ok (.getfield 10, 3) := by decide +kernel
theorem dL_builds_296 : decode cL_builds 296 = .ok (.aload_n 0, 1) := by decide +kernel
theorem dL_builds_297 : decode cL_builds 297 = .ok (.iload_n 1, 1) := by decide +kernel
theorem dL_builds_298 : decode cL_builds 298 = .ok (.invokevirtual 65, 3) := by decide +kernel
theorem dL_builds_301 : decode cL_builds 301 = .ok (.aload_n 0, 1) := by decide +kernel
theorem dL_builds_302 : decode cL_builds 302 = .ok (.getfield 20, 3) := by decide +kernel
theorem dL_builds_305 : decode cL_builds 305 = .ok (.iload_n 2, 1) := by decide +kernel
theorem dL_builds_306 : decode cL_builds 306 = .ok (.iaload, 1) := by decide +kernel
theorem dL_builds_307 : decode cL_builds 307 = .ok (.aload_n 0, 1) := by decide +kernel
theorem dL_builds_308 : decode cL_builds 308 = .ok (.sipush 9000, 3) := by decide +kernel
theorem dL_builds_311 : decode cL_builds 311 = .ok (.invokevirtual 65, 3) := by decide +kernel
theorem dL_builds_314 : decode cL_builds 314 = .ok (.sipush 9000, 3) := by decide +kernel
theorem dL_builds_317 : decode cL_builds 317 = .ok (.isub, 1) := by decide +kernel
theorem dL_builds_318 : decode cL_builds 318 = .ok (.aload_n 0, 1) := by decide +kernel
theorem dL_builds_319 : decode cL_builds 319 = .ok (.sipush 9000, 3) := by decide +kernel
theorem dL_builds_322 : decode cL_builds 322 = .ok (.invokevirtual 65, 3) := by decide +kernel
theorem dL_builds_325 : decode cL_builds 325 = .ok (.aload_n 0, 1) := by decide +kernel
theorem dL_builds_326 : decode cL_builds 326 = .ok (.getfield 16, 3) := by decide +kernel
theorem dL_builds_329 : decode cL_builds 329 = .ok (.iload_n 2, 1) := by decide +kernel
theorem dL_builds_330 : decode cL_builds 330 = .ok (.iaload, 1) := by decide +kernel
theorem dL_builds_331 : decode cL_builds 331 = .ok (.invokevirtual 86, 3) := by decide +kernel
theorem dL_builds_334 : decode cL_builds 334 = .ok (.iload_n 2, 1) := by decide +kernel
theorem dL_builds_335 : decode cL_builds 335 = .ok (.if_icmp .eq 5, 3) := by decide +kernel
theorem dL_builds_338 : decode cL_builds 338 = .ok (.iconst 0, 1) := by decide +kernel
theorem dL_builds_339 : decode cL_builds 339 = .ok (.ireturn, 1) := by decide +kernel
theorem dL_builds_340 : decode cL_builds 340 = .ok (.iinc 2 1, 3) := by decide +kernel
theorem dL_builds_343 : decode cL_builds 343 = .ok (.goto (-90), 3) := by decide +kernel
theorem dL_builds_346 : decode cL_builds 346 = .ok (.bipush 20, 2) := by decide +kernel
theorem dL_builds_348 : decode cL_builds 348 = .ok (.aload_n 0, 1) := by decide +kernel
theorem dL_builds_349 : decode cL_builds 349 = .ok (.sipush 900, 3) := by decide +kernel
theorem dL_builds_352 : decode cL_builds 352 = .ok (.invokevirtual 65, 3) := by decide +kernel
theorem dL_builds_355 : decode cL_builds 355 = .ok (.iadd, 1) := by decide +kernel
theorem dL_builds_356 : decode cL_builds 356 = .ok (.istore_n 2, 1) := by decide +kernel
theorem dL_builds_357 : decode cL_builds 357 = .ok (.aload_n 0, 1) := by decide +kernel
theorem dL_builds_358 : decode cL_builds 358 = .ok (.iload_n 2, 1) := by decide +kernel
theorem dL_builds_359 : decode cL_builds 359 = .ok (.invokevirtual 65, 3) := by decide +kernel
theorem dL_builds_362 : decode cL_builds 362 = .ok (.istore_n 3, 1) := by decide +kernel
theorem dL_builds_363 : decode cL_builds 363 = .ok (.aload_n 0, 1) := by decide +kernel
theorem dL_builds_364 : decode cL_builds 364 = .ok (.getfield 10, 3) := by decide +kernel
theorem dL_builds_367 : decode cL_builds 367 = .ok (.iload_n 2, 1) := by decide +kernel
theorem dL_builds_368 : decode cL_builds 368 = .ok (.iload_n 3, 1) := by decide +kernel
theorem dL_builds_369 : decode cL_builds 369 = .ok (.iload_n 3, 1) := by decide +kernel
theorem dL_builds_370 : decode cL_builds 370 = .ok (.aload_n 0, 1) := by decide +kernel
theorem dL_builds_371 : decode cL_builds 371 = .ok (.iload_n 2, 1) := by decide +kernel
theorem dL_builds_372 : decode cL_builds 372 = .ok (.iload_n 3, 1) := by decide +kernel
theorem dL_builds_373 : decode cL_builds 373 = .ok (.isub, 1) := by decide +kernel
theorem dL_builds_374 : decode cL_builds 374 = .ok (.invokevirtual 65, 3) := by decide +kernel
theorem dL_builds_377 : decode cL_builds 377 = .ok (.iadd, 1) := by decide +kernel
theorem dL_builds_378 : decode cL_builds 378 = .ok (.aload_n 0, 1) := by decide +kernel
theorem dL_builds_379 : decode cL_builds 379 = .ok (.sipush 3000, 3) := by decide +kernel
theorem dL_builds_382 : decode cL_builds 382 = .ok (.invokevirtual 65, 3) := by decide +kernel
theorem dL_builds_385 : decode cL_builds 385 = .ok (.aload_n 0, 1) := by decide +kernel
theorem dL_builds_386 : decode cL_builds 386 = .ok (.bipush 60, 2) := by decide +kernel
theorem dL_builds_388 : decode cL_builds 388 = .ok (.invokevirtual 65, 3) := by decide +kernel
theorem dL_builds_391 : decode cL_builds 391 = .ok (.aload_n 0, 1) := by decide +kernel
theorem dL_builds_392 : decode cL_builds 392 = .ok (.sipush 400, 3) := by decide +kernel
theorem dL_builds_395 : decode cL_builds 395 = .ok (.invokevirtual 65, 3) := by decide +kernel
theorem dL_builds_398 : decode cL_builds 398 = .ok (.invokevirtual 89, 3) := by decide +kernel
theorem dL_builds_401 : decode cL_builds 401 = .ok (.ifCond .ne 58, 3) := by decide +kernel
theorem dL_builds_404 : decode cL_builds 404 = .ok (.aload_n 0, 1) := by decide +kernel
theorem dL_builds_405 : decode cL_builds 405 = .ok (.getfield 10, 3) := by decide +kernel
theorem dL_builds_408 : decode cL_builds 408 = .ok (.aload_n 0, 1) := by decide +kernel
theorem dL_builds_409 : decode cL_builds 409 = .ok (.sipush 30000, 3) := by decide +kernel
theorem dL_builds_412 : decode cL_builds 412 = .ok (.invokevirtual 65, 3) := by decide +kernel
theorem dL_builds_415 : decode cL_builds 415 = .ok (.aload_n 0, 1) := by decide +kernel
theorem dL_builds_416 : decode cL_builds 416 = .ok (.sipush 9000, 3) := by decide +kernel
theorem dL_builds_419 : decode cL_builds 419 = .ok (.invokevirtual 65, 3) := by decide +kernel
theorem dL_builds_422 : decode cL_builds 422 = .ok (.aload_n 0, 1) := by decide +kernel
theorem dL_builds_423 : decode cL_builds 423 = .ok (.ldc 93, 2) := by decide +kernel
theorem dL_builds_425 : decode cL_builds 425 = .ok (.invokevirtual 65, 3) := by decide +kernel
theorem dL_builds_428 : decode cL_builds 428 = .ok (.iconst 0, 1) := by decide +kernel
theorem dL_builds_429 : decode cL_builds 429 = .ok (.invokevirtual 94, 3) := by decide +kernel
theorem dL_builds_432 : decode cL_builds 432 = .ok (.ifCond .ne 27, 3) := by decide +kernel
theorem dL_builds_435 : decode cL_builds 435 = .ok (.aload_n 0, 1) := by decide +kernel
theorem dL_builds_436 : decode cL_builds 436 = .ok (.getfield 10, 3) := by decide +kernel
theorem dL_builds_439 : decode cL_builds 439 = .ok (.iconst 1, 1) := by decide +kernel
theorem dL_builds_440 : decode cL_builds 440 = .ok (.aload_n 0, 1) := by decide +kernel
theorem dL_builds_441 : decode cL_builds 441 = .ok (.bipush 30, 2) := by decide +kernel
theorem dL_builds_443 : decode cL_builds 443 = .ok (.invokevirtual 65, 3) := by decide +kernel
theorem dL_builds_446 : decode cL_builds 446 = .ok (.iadd, 1) := by decide +kernel
theorem dL_builds_447 : decode cL_builds 447 = .ok (.invokevirtual 98, 3) := by decide +kernel
theorem dL_builds_450 : decode cL_builds 450 = .ok (.bipush 10, 2) := by decide +kernel
theorem dL_builds_452 : decode cL_builds 452 = .ok (.if_icmp .ne 7, 3) := by decide +kernel
theorem dL_builds_455 : decode cL_builds 455 = .ok (.iconst 1, 1) := by decide +kernel
theorem dL_builds_456 : decode cL_builds 456 = .ok (.goto 4, 3) := by decide +kernel
theorem dL_builds_459 : decode cL_builds 459 = .ok (.iconst 0, 1) := by decide +kernel
theorem dL_builds_460 : decode cL_builds 460 = .ok (.ireturn, 1) := by decide +kernel
theorem dL_balances_0 : decode cL_balances 0 = .ok (.lconst 0, 1) := by decide +kernel
theorem dL_balances_1 : decode cL_balances 1 = .ok (.lstore_n 1, 1) := by decide +kernel
theorem dL_balances_2 : decode cL_balances 2 = .ok (.aload_n 0, 1) := by decide +kernel
theorem dL_balances_3 : decode cL_balances 3 = .ok (.getfield 10, 3) := by decide +kernel
theorem dL_balances_6 : decode cL_balances 6 = .ok (.invokevirtual 101, 3) := by decide +kernel
theorem dL_balances_9 : decode cL_balances 9 = .ok (.istore_n 3, 1) := by decide +kernel
theorem dL_balances_10 : decode cL_balances 10 = .ok (.iconst 0, 1) := by decide +kernel
theorem dL_balances_11 : decode cL_balances 11 = .ok (.istore 4, 2) := by decide +kernel
theorem dL_balances_13 : decode cL_balances 13 = .ok (.iload 4, 2) := by decide +kernel
theorem dL_balances_15 : decode cL_balances 15 = .ok (.iload_n 3, 1) := by decide +kernel
theorem dL_balances_16 : decode cL_balances 16 = .ok (.if_icmp .ge 108, 3) := by decide +kernel
theorem dL_balances_19 : decode cL_balances 19 = .ok (.aload_n 0, 1) := by decide +kernel
theorem dL_balances_20 : decode cL_balances 20 = .ok (.getfield 10, 3) := by decide +kernel
theorem dL_balances_23 : decode cL_balances 23 = .ok (.iload 4, 2) := by decide +kernel
theorem dL_balances_25 : decode cL_balances 25 = .ok (.invokevirtual 104, 3) := by decide +kernel
theorem dL_balances_28 : decode cL_balances 28 = .ok (.i2l, 1) := by decide +kernel
theorem dL_balances_29 : decode cL_balances 29 = .ok (.aload_n 0, 1) := by decide +kernel
theorem dL_balances_30 : decode cL_balances 30 = .ok (.getfield 10, 3) := by decide +kernel
theorem dL_balances_33 : decode cL_balances 33 = .ok (.iload 4, 2) := by decide +kernel
theorem dL_balances_35 : decode cL_balances 35 = .ok (.invokevirtual 107, 3) := by decide +kernel
theorem dL_balances_38 : decode cL_balances 38 = .ok (.ladd, 1) := by decide +kernel
theorem dL_balances_39 : decode cL_balances 39 = .ok (.aload_n 0, 1) := by decide +kernel
theorem dL_balances_40 : decode cL_balances 40 = .ok (.getfield 10, 3) := by decide +kernel
theorem dL_balances_43 : decode cL_balances 43 = .ok (.iload 4, 2) := by decide +kernel
theorem dL_balances_45 : decode cL_balances 45 = .ok (.invokevirtual 111, 3) := by decide +kernel
theorem dL_balances_48 : decode cL_balances 48 = .ok (.ladd, 1) := by decide +kernel
theorem dL_balances_49 : decode cL_balances 49 = .ok (.aload_n 0, 1) := by decide +kernel
theorem dL_balances_50 : decode cL_balances 50 = .ok (.getfield 10, 3) := by decide +kernel
theorem dL_balances_53 : decode cL_balances 53 = .ok (.iload 4, 2) := by decide +kernel
theorem dL_balances_55 : decode cL_balances 55 = .ok (.invokevirtual 114, 3) := by decide +kernel
theorem dL_balances_58 : decode cL_balances 58 = .ok (.lsub, 1) := by decide +kernel
theorem dL_balances_59 : decode cL_balances 59 = .ok (.lstore 5, 2) := by decide +kernel
theorem dL_balances_61 : decode cL_balances 61 = .ok (.aload_n 0, 1) := by decide +kernel
theorem dL_balances_62 : decode cL_balances 62 = .ok (.getfield 10, 3) := by decide +kernel
theorem dL_balances_65 : decode cL_balances 65 = .ok (.iload 4, 2) := by decide +kernel
theorem dL_balances_67 : decode cL_balances 67 = .ok (.invokevirtual 117, 3) := by decide +kernel
theorem dL_balances_70 : decode cL_balances 70 = .ok (.lstore 7, 2) := by decide +kernel
theorem dL_balances_72 : decode cL_balances 72 = .ok (.lload 7, 2) := by decide +kernel
theorem dL_balances_74 : decode cL_balances 74 = .ok (.lload 5, 2) := by decide +kernel
theorem dL_balances_76 : decode cL_balances 76 = .ok (.lcmp, 1) := by decide +kernel
theorem dL_balances_77 : decode cL_balances 77 = .ok (.ifCond .lt 31, 3) := by decide +kernel
theorem dL_balances_80 : decode cL_balances 80 = .ok (.aload_n 0, 1) := by decide +kernel
theorem dL_balances_81 : decode cL_balances 81 = .ok (.getfield 10, 3) := by decide +kernel
theorem dL_balances_84 : decode cL_balances 84 = .ok (.iload 4, 2) := by decide +kernel
theorem dL_balances_86 : decode cL_balances 86 = .ok (.invokevirtual 114, 3) := by decide +kernel
theorem dL_balances_89 : decode cL_balances 89 = .ok (.lconst 0, 1) := by decide +kernel
theorem dL_balances_90 : decode cL_balances 90 = .ok (.lcmp, 1) := by decide +kernel
theorem dL_balances_91 : decode cL_balances 91 = .ok (.ifCond .lt 17, 3) := by decide +kernel
theorem dL_balances_94 : decode cL_balances 94 = .ok (.aload_n 0, 1) := by decide +kernel
theorem dL_balances_95 : decode cL_balances 95 = .ok (.getfield 10, 3) := by decide +kernel
theorem dL_balances_98 : decode cL_balances 98 = .ok (.iload 4, 2) := by decide +kernel
theorem dL_balances_100 : decode cL_balances 100 = .ok (.invokevirtual 107, 3) := by decide +kernel
theorem dL_balances_103 : decode cL_balances 103 = .ok (.lconst 0, 1) := by decide +kernel
theorem dL_balances_104 : decode cL_balances 104 = .ok (.lcmp, 1) := by decide +kernel
theorem dL_balances_105 : decode cL_balances 105 = .ok (.ifCond .ge 5, 3) := by decide +kernel
theorem dL_balances_108 : decode cL_balances 108 = .ok (.iconst 0, 1) := by decide +kernel
theorem dL_balances_109 : decode cL_balances 109 = .ok (.ireturn, 1) := by decide +kernel
theorem dL_balances_110 : decode cL_balances 110 = .ok (.lload_n 1, 1) := by decide +kernel
theorem dL_balances_111 : decode cL_balances 111 = .ok (.lload 7, 2) := by decide +kernel
theorem dL_balances_113 : decode cL_balances 113 = .ok (.lload 5, 2) := by decide +kernel
theorem dL_balances_115 : decode cL_balances 115 = .ok (.lsub, 1) := by decide +kernel
theorem dL_balances_116 : decode cL_balances 116 = .ok (.ladd, 1) := by decide +kernel
theorem dL_balances_117 : decode cL_balances 117 = .ok (.lstore_n 1, 1) := by decide +kernel
theorem dL_balances_118 : decode cL_balances 118 = .ok (.iinc 4 1, 3) := by decide +kernel
theorem dL_balances_121 : decode cL_balances 121 = .ok (.goto (-108), 3) := by decide +kernel
theorem dL_balances_124 : decode cL_balances 124 = .ok (.lconst 0, 1) := by decide +kernel
theorem dL_balances_125 : decode cL_balances 125 = .ok (.lstore 4, 2) := by decide +kernel
theorem dL_balances_127 : decode cL_balances 127 = .ok (.iconst 0, 1) := by decide +kernel
theorem dL_balances_128 : decode cL_balances 128 = .ok (.istore 6, 2) := by decide +kernel
theorem dL_balances_130 : decode cL_balances 130 = .ok (.iload 6, 2) := by decide +kernel
theorem dL_balances_132 : decode cL_balances 132 = .ok (.iload_n 3, 1) := by decide +kernel
theorem dL_balances_133 : decode cL_balances 133 = .ok (.if_icmp .ge 23, 3) := by decide +kernel
theorem dL_balances_136 : decode cL_balances 136 = .ok (.lload 4, 2) := by decide +kernel
theorem dL_balances_138 : decode cL_balances 138 = .ok (.aload_n 0, 1) := by decide +kernel
theorem dL_balances_139 : decode cL_balances 139 = .ok (.getfield 10, 3) := by decide +kernel
theorem dL_balances_142 : decode cL_balances 142 = .ok (.iload 6, 2) := by decide +kernel
theorem dL_balances_144 : decode cL_balances 144 = .ok (.invokevirtual 111, 3) := by decide +kernel
theorem dL_balances_147 : decode cL_balances 147 = .ok (.ladd, 1) := by decide +kernel
theorem dL_balances_148 : decode cL_balances 148 = .ok (.lstore 4, 2) := by decide +kernel
theorem dL_balances_150 : decode cL_balances 150 = .ok (.iinc 6 1, 3) := by decide +kernel
theorem dL_balances_153 : decode cL_balances 153 = .ok (.goto (-23), 3) := by decide +kernel
theorem dL_balances_156 : decode cL_balances 156 = .ok (.lload 4, 2) := by decide +kernel
theorem dL_balances_158 : decode cL_balances 158 = .ok (.lconst 0, 1) := by decide +kernel
theorem dL_balances_159 : decode cL_balances 159 = .ok (.lcmp, 1) := by decide +kernel
theorem dL_balances_160 : decode cL_balances 160 = .ok (.ifCond .ne 20, 3) := by decide +kernel
theorem dL_balances_163 : decode cL_balances 163 = .ok (.lload_n 1, 1) := by decide +kernel
theorem dL_balances_164 : decode cL_balances 164 = .ok (.aload_n 0, 1) := by decide +kernel
theorem dL_balances_165 : decode cL_balances 165 = .ok (.getfield 10, 3) := by decide +kernel
theorem dL_balances_168 : decode cL_balances 168 = .ok (.invokevirtual 120, 3) := by decide +kernel
theorem dL_balances_171 : decode cL_balances 171 = .ok (.i2l, 1) := by decide +kernel
theorem dL_balances_172 : decode cL_balances 172 = .ok (.lcmp, 1) := by decide +kernel
theorem dL_balances_173 : decode cL_balances 173 = .ok (.ifCond .ne 7, 3) := by decide +kernel
theorem dL_balances_176 : decode cL_balances 176 = .ok (.iconst 1, 1) := by decide +kernel
theorem dL_balances_177 : decode cL_balances 177 = .ok (.goto 4, 3) := by decide +kernel
theorem dL_balances_180 : decode cL_balances 180 = .ok (.iconst 0, 1) := by decide +kernel
theorem dL_balances_181 : decode cL_balances 181 = .ok (.ireturn, 1) := by decide +kernel
theorem dL_moves_0 : decode cL_moves 0 = .ok (.aload_n 0, 1) := by decide +kernel
theorem dL_moves_1 : decode cL_moves 1 = .ok (.getfield 10, 3) := by decide +kernel
theorem dL_moves_4 : decode cL_moves 4 = .ok (.invokevirtual 101, 3) := by decide +kernel
theorem dL_moves_7 : decode cL_moves 7 = .ok (.istore_n 1, 1) := by decide +kernel
theorem dL_moves_8 : decode cL_moves 8 = .ok (.aload_n 0, 1) := by decide +kernel
theorem dL_moves_9 : decode cL_moves 9 = .ok (.getfield 10, 3) := by decide +kernel
theorem dL_moves_12 : decode cL_moves 12 = .ok (.invokevirtual 123, 3) := by decide +kernel
theorem dL_moves_15 : decode cL_moves 15 = .ok (.istore_n 2, 1) := by decide +kernel
theorem dL_moves_16 : decode cL_moves 16 = .ok (.aload_n 0, 1) := by decide +kernel
theorem dL_moves_17 : decode cL_moves 17 = .ok (.getfield 10, 3) := by decide +kernel
theorem dL_moves_20 : decode cL_moves 20 = .ok (.invokevirtual 126, 3) := by decide +kernel
theorem dL_moves_23 : decode cL_moves 23 = .ok (.istore_n 3, 1) := by decide +kernel
theorem dL_moves_24 : decode cL_moves 24 = .ok (.aload_n 0, 1) := by decide +kernel
theorem dL_moves_25 : decode cL_moves 25 = .ok (.getfield 10, 3) := by decide +kernel
theorem dL_moves_28 : decode cL_moves 28 = .ok (.invokevirtual 129, 3) := by decide +kernel
theorem dL_moves_31 : decode cL_moves 31 = .ok (.istore 4, 2) := by decide +kernel
theorem dL_moves_33 : decode cL_moves 33 = .ok (.aload_n 0, 1) := by decide +kernel
theorem dL_moves_34 : decode cL_moves 34 = .ok (.getfield 10, 3) := by decide +kernel
theorem dL_moves_37 : decode cL_moves 37 = .ok (.invokevirtual 132, 3) := by decide +kernel
theorem dL_moves_40 : decode cL_moves 40 = .ok (.istore 5, 2) := by decide +kernel
theorem dL_moves_42 : decode cL_moves 42 = .ok (.aload_n 0, 1) := by decide +kernel
theorem dL_moves_43 : decode cL_moves 43 = .ok (.getfield 10, 3) := by decide +kernel
theorem dL_moves_46 : decode cL_moves 46 = .ok (.invokevirtual 135, 3) := by decide +kernel
theorem dL_moves_49 : decode cL_moves 49 = .ok (.istore 6, 2) := by decide +kernel
theorem dL_moves_51 : decode cL_moves 51 = .ok (.iload_n 2, 1) := by decide +kernel
theorem dL_moves_52 : decode cL_moves 52 = .ok (.newarray .int, 2) := by decide +kernel
theorem dL_moves_54 : decode cL_moves 54 = .ok (.astore 7, 2) := by decide +kernel
theorem dL_moves_56 : decode cL_moves 56 = .ok (.iload_n 2, 1) := by decide +kernel
theorem dL_moves_57 : decode cL_moves 57 = .ok (.newarray .int, 2) := by decide +kernel
theorem dL_moves_59 : decode cL_moves 59 = .ok (.astore 8, 2) := by decide +kernel
theorem dL_moves_61 : decode cL_moves 61 = .ok (.iload_n 1, 1) := by decide +kernel
theorem dL_moves_62 : decode cL_moves 62 = .ok (.newarray .int, 2) := by decide +kernel
theorem dL_moves_64 : decode cL_moves 64 = .ok (.astore 9, 2) := by decide +kernel
theorem dL_moves_66 : decode cL_moves 66 = .ok (.iload_n 1, 1) := by decide +kernel
theorem dL_moves_67 : decode cL_moves 67 = .ok (.newarray .int, 2) := by decide +kernel
theorem dL_moves_69 : decode cL_moves 69 = .ok (.astore 10, 2) := by decide +kernel
theorem dL_moves_71 : decode cL_moves 71 = .ok (.iconst 3, 1) := by decide +kernel
theorem dL_moves_72 : decode cL_moves 72 = .ok (.newarray .long, 2) := by decide +kernel
theorem dL_moves_74 : decode cL_moves 74 = .ok (.dup, 1) := by decide +kernel
theorem dL_moves_75 : decode cL_moves 75 = .ok (.iconst 0, 1) := by decide +kernel
theorem dL_moves_76 : decode cL_moves 76 = .ok (.aload_n 0, 1) := by decide +kernel
theorem dL_moves_77 : decode cL_moves 77 = .ok (.getfield 10, 3) := by decide +kernel
theorem dL_moves_80 : decode cL_moves 80 = .ok (.iconst 0, 1) := by decide +kernel
theorem dL_moves_81 : decode cL_moves 81 = .ok (.invokevirtual 138, 3) := by decide +kernel
theorem dL_moves_84 : decode cL_moves 84 = .ok (.lastore, 1) := by decide +kernel
theorem dL_moves_85 : decode cL_moves 85 = .ok (.dup, 1) := by decide +kernel
theorem dL_moves_86 : decode cL_moves 86 = .ok (.iconst 1, 1) := by decide +kernel
theorem dL_moves_87 : decode cL_moves 87 = .ok (.aload_n 0, 1) := by decide +kernel
theorem dL_moves_88 : decode cL_moves 88 = .ok (.getfield 10, 3) := by decide +kernel
theorem dL_moves_91 : decode cL_moves 91 = .ok (.iconst 1, 1) := by decide +kernel
theorem dL_moves_92 : decode cL_moves 92 = .ok (.invokevirtual 138, 3) := by decide +kernel
theorem dL_moves_95 : decode cL_moves 95 = .ok (.lastore, 1) := by decide +kernel
theorem dL_moves_96 : decode cL_moves 96 = .ok (.dup, 1) := by decide +kernel
theorem dL_moves_97 : decode cL_moves 97 = .ok (.iconst 2, 1) := by decide +kernel
theorem dL_moves_98 : decode cL_moves 98 = .ok (.aload_n 0, 1) := by decide +kernel
theorem dL_moves_99 : decode cL_moves 99 = .ok (.getfield 10, 3) := by decide +kernel
theorem dL_moves_102 : decode cL_moves 102 = .ok (.iconst 2, 1) := by decide +kernel
theorem dL_moves_103 : decode cL_moves 103 = .ok (.invokevirtual 138, 3) := by decide +kernel
theorem dL_moves_106 : decode cL_moves 106 = .ok (.lastore, 1) := by decide +kernel
theorem dL_moves_107 : decode cL_moves 107 = .ok (.astore 11, 2) := by decide +kernel
theorem dL_moves_109 : decode cL_moves 109 = .ok (.iconst 0, 1) := by decide +kernel
theorem dL_moves_110 : decode cL_moves 110 = .ok (.istore 12, 2) := by decide +kernel
theorem dL_moves_112 : decode cL_moves 112 = .ok (.iload 12, 2) := by decide +kernel
theorem dL_moves_114 : decode cL_moves 114 = .ok (.iload_n 2, 1) := by decide +kernel
theorem dL_moves_115 : decode cL_moves 115 = .ok (.if_icmp .ge 37, 3) := by decide +kernel
theorem dL_moves_118 : decode cL_moves 118 = .ok (.aload 7, 2) := by decide +kernel
theorem dL_moves_120 : decode cL_moves 120 = .ok (.iload 12, 2) := by decide +kernel
theorem dL_moves_122 : decode cL_moves 122 = .ok (.aload_n 0, 1) := by decide +kernel
theorem dL_moves_123 : decode cL_moves 123 = .ok (.getfield 10, 3) := by decide +kernel
theorem dL_moves_126 : decode cL_moves 126 = .ok (.iload 12, 2) := by decide +kernel
theorem dL_moves_128 : decode cL_moves 128 = .ok (.invokevirtual 141, 3) := by decide +kernel
theorem dL_moves_131 : decode cL_moves 131 = .ok (.iastore, 1) := by decide +kernel
theorem dL_moves_132 : decode cL_moves 132 = .ok (.aload 8, 2) := by decide +kernel
theorem dL_moves_134 : decode cL_moves 134 = .ok (.iload 12, 2) := by decide +kernel
theorem dL_moves_136 : decode cL_moves 136 = .ok (.aload_n 0, 1) := by decide +kernel
theorem dL_moves_137 : decode cL_moves 137 = .ok (.getfield 10, 3) := by decide +kernel
theorem dL_moves_140 : decode cL_moves 140 = .ok (.iload 12, 2) := by decide +kernel
theorem dL_moves_142 : decode cL_moves 142 = .ok (.invokevirtual 144, 3) := by decide +kernel
theorem dL_moves_145 : decode cL_moves 145 = .ok (.iastore, 1) := by decide +kernel
theorem dL_moves_146 : decode cL_moves 146 = .ok (.iinc 12 1, 3) := by decide +kernel
theorem dL_moves_149 : decode cL_moves 149 = .ok (.goto (-37), 3) := by decide +kernel
theorem dL_moves_152 : decode cL_moves 152 = .ok (.iconst 0, 1) := by decide +kernel
theorem dL_moves_153 : decode cL_moves 153 = .ok (.istore 12, 2) := by decide +kernel
theorem dL_moves_155 : decode cL_moves 155 = .ok (.iload 12, 2) := by decide +kernel
theorem dL_moves_157 : decode cL_moves 157 = .ok (.iload_n 1, 1) := by decide +kernel
theorem dL_moves_158 : decode cL_moves 158 = .ok (.if_icmp .ge 37, 3) := by decide +kernel
theorem dL_moves_161 : decode cL_moves 161 = .ok (.aload 9, 2) := by decide +kernel
theorem dL_moves_163 : decode cL_moves 163 = .ok (.iload 12, 2) := by decide +kernel
theorem dL_moves_165 : decode cL_moves 165 = .ok (.aload_n 0, 1) := by decide +kernel
theorem dL_moves_166 : decode cL_moves 166 = .ok (.getfield 10, 3) := by decide +kernel
theorem dL_moves_169 : decode cL_moves 169 = .ok (.iload 12, 2) := by decide +kernel
theorem dL_moves_171 : decode cL_moves 171 = .ok (.invokevirtual 147, 3) := by decide +kernel
theorem dL_moves_174 : decode cL_moves 174 = .ok (.iastore, 1) := by decide +kernel
theorem dL_moves_175 : decode cL_moves 175 = .ok (.aload 10, 2) := by decide +kernel
theorem dL_moves_177 : decode cL_moves 177 = .ok (.iload 12, 2) := by decide +kernel
theorem dL_moves_179 : decode cL_moves 179 = .ok (.aload_n 0, 1) := by decide +kernel
theorem dL_moves_180 : decode cL_moves 180 = .ok (.getfield 10, 3) := by decide +kernel
theorem dL_moves_183 : decode cL_moves 183 = .ok (.iload 12, 2) := by decide +kernel
theorem dL_moves_185 : decode cL_moves 185 = .ok (.invokevirtual 150, 3) := by decide +kernel
theorem dL_moves_188 : decode cL_moves 188 = .ok (.iastore, 1) := by decide +kernel
theorem dL_moves_189 : decode cL_moves 189 = .ok (.iinc 12 1, 3) := by decide +kernel
theorem dL_moves_192 : decode cL_moves 192 = .ok (.goto (-37), 3) := by decide +kernel
theorem dL_moves_195 : decode cL_moves 195 = .ok (.lconst 0, 1) := by decide +kernel
theorem dL_moves_196 : decode cL_moves 196 = .ok (.lstore 12, 2) := by decide +kernel
theorem dL_moves_198 : decode cL_moves 198 = .ok (.iconst 0, 1) := by decide +kernel
theorem dL_moves_199 : decode cL_moves 199 = .ok (.istore 14, 2) := by decide +kernel
theorem dL_moves_201 : decode cL_moves 201 = .ok (.iload 14, 2) := by decide +kernel
theorem dL_moves_203 : decode cL_moves 203 = .ok (.iload_n 1, 1) := by decide +kernel
theorem dL_moves_204 : decode cL_moves 204 = .ok (.if_icmp .ge 23, 3) := by decide +kernel
theorem dL_moves_207 : decode cL_moves 207 = .ok (.lload 12, 2) := by decide +kernel
theorem dL_moves_209 : decode cL_moves 209 = .ok (.aload_n 0, 1) := by decide +kernel
theorem dL_moves_210 : decode cL_moves 210 = .ok (.getfield 10, 3) := by decide +kernel
theorem dL_moves_213 : decode cL_moves 213 = .ok (.iload 14, 2) := by decide +kernel
theorem dL_moves_215 : decode cL_moves 215 = .ok (.invokevirtual 107, 3) := by decide +kernel
theorem dL_moves_218 : decode cL_moves 218 = .ok (.ladd, 1) := by decide +kernel
theorem dL_moves_219 : decode cL_moves 219 = .ok (.lstore 12, 2) := by decide +kernel
theorem dL_moves_221 : decode cL_moves 221 = .ok (.iinc 14 1, 3) := by decide +kernel
theorem dL_moves_224 : decode cL_moves 224 = .ok (.goto (-23), 3) := by decide +kernel
theorem dL_moves_227 : decode cL_moves 227 = .ok (.aload_n 0, 1) := by decide +kernel
theorem dL_moves_228 : decode cL_moves 228 = .ok (.getfield 10, 3) := by decide +kernel
theorem dL_moves_231 : decode cL_moves 231 = .ok (.iconst 1, 1) := by decide +kernel
theorem dL_moves_232 : decode cL_moves 232 = .ok (.invokevirtual 98, 3) := by decide +kernel
theorem dL_moves_235 : decode cL_moves 235 = .ok (.istore 14, 2) := by decide +kernel
theorem dL_moves_237 : decode cL_moves 237 = .ok (.aload_n 0, 1) := by decide +kernel
theorem dL_moves_238 : decode cL_moves 238 = .ok (.getfield 10, 3) := by decide +kernel
theorem dL_moves_241 : decode cL_moves 241 = .ok (.iload 14, 2) := by decide +kernel
theorem dL_moves_243 : decode cL_moves 243 = .ok (.invokevirtual 98, 3) := by decide +kernel
theorem dL_moves_246 : decode cL_moves 246 = .ok (.iconst 1, 1) := by decide +kernel
theorem dL_moves_247 : decode cL_moves 247 = .ok (.if_icmp .eq 5, 3) := by decide +kernel
theorem dL_moves_250 : decode cL_moves 250 = .ok (.iconst 0, 1) := by decide +kernel
theorem dL_moves_251 : decode cL_moves 251 = .ok (.ireturn, 1) := by decide +kernel
theorem dL_moves_252 : decode cL_moves 252 = .ok (.aload_n 0, 1) := by decide +kernel
theorem dL_moves_253 : decode cL_moves 253 = .ok (.getfield 10, 3) := by decide +kernel
theorem dL_moves_256 : decode cL_moves 256 = .ok (.iconst 1, 1) := by decide +kernel
theorem dL_moves_257 : decode cL_moves 257 = .ok (.invokevirtual 153, 3) := by decide +kernel
theorem dL_moves_260 : decode cL_moves 260 = .ok (.istore 15, 2) := by decide +kernel
theorem dL_moves_262 : decode cL_moves 262 = .ok (.iconst 0, 1) := by decide +kernel
theorem dL_moves_263 : decode cL_moves 263 = .ok (.istore 16, 2) := by decide +kernel
theorem dL_moves_265 : decode cL_moves 265 = .ok (.iload 16, 2) := by decide +kernel
theorem dL_moves_267 : decode cL_moves 267 = .ok (.iload_n 2, 1) := by decide +kernel
theorem dL_moves_268 : decode cL_moves 268 = .ok (.if_icmp .ge 117, 3) := by decide +kernel
theorem dL_moves_271 : decode cL_moves 271 = .ok (.aload_n 0, 1) := by decide +kernel
theorem dL_moves_272 : decode cL_moves 272 = .ok (.getfield 10, 3) := by decide +kernel
theorem dL_moves_275 : decode cL_moves 275 = .ok (.iload 16, 2) := by decide +kernel
theorem dL_moves_277 : decode cL_moves 277 = .ok (.invokevirtual 141, 3) := by decide +kernel
theorem dL_moves_280 : decode cL_moves 280 = .ok (.aload 7, 2) := by decide +kernel
theorem dL_moves_282 : decode cL_moves 282 = .ok (.iload 16, 2) := by decide +kernel
theorem dL_moves_284 : decode cL_moves 284 = .ok (.iaload, 1) := by decide +kernel
theorem dL_moves_285 : decode cL_moves 285 = .ok (.isub, 1) := by decide +kernel
theorem dL_moves_286 : decode cL_moves 286 = .ok (.istore 17, 2) := by decide +kernel
theorem dL_moves_288 : decode cL_moves 288 = .ok (.aload 8, 2) := by decide +kernel
theorem dL_moves_290 : decode cL_moves 290 = .ok (.iload 16, 2) := by decide +kernel
theorem dL_moves_292 : decode cL_moves 292 = .ok (.iaload, 1) := by decide +kernel
theorem dL_moves_293 : decode cL_moves 293 = .ok (.aload 7, 2) := by decide +kernel
theorem dL_moves_295 : decode cL_moves 295 = .ok (.iload 16, 2) := by decide +kernel
theorem dL_moves_297 : decode cL_moves 297 = .ok (.iaload, 1) := by decide +kernel
theorem dL_moves_298 : decode cL_moves 298 = .ok (.isub, 1) := by decide +kernel
theorem dL_moves_299 : decode cL_moves 299 = .ok (.istore 18, 2) := by decide +kernel
theorem dL_moves_301 : decode cL_moves 301 = .ok (.aload_n 0, 1) := by decide +kernel
theorem dL_moves_302 : decode cL_moves 302 = .ok (.getfield 10, 3) := by decide +kernel
theorem dL_moves_305 : decode cL_moves 305 = .ok (.iload 16, 2) := by decide +kernel
theorem dL_moves_307 : decode cL_moves 307 = .ok (.invokevirtual 156, 3) := by decide +kernel
theorem dL_moves_310 : decode cL_moves 310 = .ok (.iconst 1, 1) := by decide +kernel
theorem dL_moves_311 : decode cL_moves 311 = .ok (.if_icmp .ne 11, 3) := by decide +kernel
theorem dL_moves_314 : decode cL_moves 314 = .ok (.iload 17, 2) := by decide +kernel
theorem dL_moves_316 : decode cL_moves 316 = .ok (.ifCond .eq 63, 3) := by decide +kernel
theorem dL_moves_319 : decode cL_moves 319 = .ok (.goto 58, 3) := by decide +kernel
theorem dL_moves_322 : decode cL_moves 322 = .ok (.iload 17, 2) := by decide +kernel
theorem dL_moves_324 : decode cL_moves 324 = .ok (.aload_n 0, 1) := by decide +kernel
theorem dL_moves_325 : decode cL_moves 325 = .ok (.getfield 23, 3) := by decide +kernel
theorem dL_moves_328 : decode cL_moves 328 = .ok (.iload 16, 2) := by decide +kernel
theorem dL_moves_330 : decode cL_moves 330 = .ok (.iaload, 1) := by decide +kernel
theorem dL_moves_331 : decode cL_moves 331 = .ok (.ineg, 1) := by decide +kernel
theorem dL_moves_332 : decode cL_moves 332 = .ok (.aload_n 0, 1) := by decide +kernel
theorem dL_moves_333 : decode cL_moves 333 = .ok (.getfield 23, 3) := by decide +kernel
theorem dL_moves_336 : decode cL_moves 336 = .ok (.iload 16, 2) := by decide +kernel
theorem dL_moves_338 : decode cL_moves 338 = .ok (.iaload, 1) := by decide +kernel
theorem dL_moves_339 : decode cL_moves 339 = .ok (.iload 18, 2) := by decide +kernel
theorem dL_moves_341 : decode cL_moves 341 = .ok (.invokestatic 159, 3) := by decide +kernel
theorem dL_moves_344 : decode cL_moves 344 = .ok (.invokestatic 35, 3) := by decide +kernel
theorem dL_moves_347 : decode cL_moves 347 = .ok (.if_icmp .ne 30, 3) := by decide +kernel
theorem dL_moves_350 : decode cL_moves 350 = .ok (.aload_n 0, 1) := by decide +kernel
theorem dL_moves_351 : decode cL_moves 351 = .ok (.getfield 10, 3) := by decide +kernel
theorem dL_moves_354 : decode cL_moves 354 = .ok (.iload 16, 2) := by decide +kernel
theorem dL_moves_356 : decode cL_moves 356 = .ok (.invokevirtual 141, 3) := by decide +kernel
theorem dL_moves_359 : decode cL_moves 359 = .ok (.ifCond .lt 18, 3) := by decide +kernel
theorem dL_moves_362 : decode cL_moves 362 = .ok (.aload_n 0, 1) := by decide +kernel
theorem dL_moves_363 : decode cL_moves 363 = .ok (.getfield 10, 3) := by decide +kernel
theorem dL_moves_366 : decode cL_moves 366 = .ok (.iload 16, 2) := by decide +kernel
theorem dL_moves_368 : decode cL_moves 368 = .ok (.invokevirtual 141, 3) := by decide +kernel
theorem dL_moves_371 : decode cL_moves 371 = .ok (.sipush 1000, 3) := by decide +kernel
theorem dL_moves_374 : decode cL_moves 374 = .ok (.if_icmp .le 5, 3) := by decide +kernel
theorem dL_moves_377 : decode cL_moves 377 = .ok (.iconst 0, 1) := by decide +kernel
theorem dL_moves_378 : decode cL_moves 378 = .ok (.ireturn, 1) := by decide +kernel
theorem dL_moves_379 : decode cL_moves 379 = .ok (.iinc 16 1, 3) := by decide +kernel
theorem dL_moves_382 : decode cL_moves 382 = .ok (.goto (-117), 3) := by decide +kernel
theorem dL_moves_385 : decode cL_moves 385 = .ok (.iconst 0, 1) := by decide +kernel
theorem dL_moves_386 : decode cL_moves 386 = .ok (.istore 16, 2) := by decide +kernel
theorem dL_moves_388 : decode cL_moves 388 = .ok (.iconst 0, 1) := by decide +kernel
theorem dL_moves_389 : decode cL_moves 389 = .ok (.istore 17, 2) := by decide +kernel
theorem dL_moves_391 : decode cL_moves 391 = .ok (.iconst 0, 1) := by decide +kernel
theorem dL_moves_392 : decode cL_moves 392 = .ok (.istore 18, 2) := by decide +kernel
theorem dL_moves_394 : decode cL_moves 394 = .ok (.iconst 0, 1) := by decide +kernel
theorem dL_moves_395 : decode cL_moves 395 = .ok (.istore 19, 2) := by decide +kernel
theorem dL_moves_397 : decode cL_moves 397 = .ok (.iload 19, 2) := by decide +kernel
theorem dL_moves_399 : decode cL_moves 399 = .ok (.iload_n 3, 1) := by decide +kernel
theorem dL_moves_400 : decode cL_moves 400 = .ok (.if_icmp .ge 113, 3) := by decide +kernel
theorem dL_moves_403 : decode cL_moves 403 = .ok (.iload 16, 2) := by decide +kernel
theorem dL_moves_405 : decode cL_moves 405 = .ok (.aload_n 0, 1) := by decide +kernel
theorem dL_moves_406 : decode cL_moves 406 = .ok (.getfield 10, 3) := by decide +kernel
theorem dL_moves_409 : decode cL_moves 409 = .ok (.iload 19, 2) := by decide +kernel
theorem dL_moves_411 : decode cL_moves 411 = .ok (.invokevirtual 162, 3) := by decide +kernel
theorem dL_moves_414 : decode cL_moves 414 = .ok (.iconst 2, 1) := by decide +kernel
theorem dL_moves_415 : decode cL_moves 415 = .ok (.if_icmp .ne 7, 3) := by decide +kernel
theorem dL_moves_418 : decode cL_moves 418 = .ok (.iconst 1, 1) := by decide +kernel
theorem dL_moves_419 : decode cL_moves 419 = .ok (.goto 4, 3) := by decide +kernel
theorem dL_moves_422 : decode cL_moves 422 = .ok (.iconst 0, 1) := by decide +kernel
theorem dL_moves_423 : decode cL_moves 423 = .ok (.iadd, 1) := by decide +kernel
theorem dL_moves_424 : decode cL_moves 424 = .ok (.istore 16, 2) := by decide +kernel
theorem dL_moves_426 : decode cL_moves 426 = .ok (.iload 17, 2) := by decide +kernel
theorem dL_moves_428 : decode cL_moves 428 = .ok (.aload_n 0, 1) := by decide +kernel
theorem dL_moves_429 : decode cL_moves 429 = .ok (.getfield 10, 3) := by decide +kernel
theorem dL_moves_432 : decode cL_moves 432 = .ok (.iload 19, 2) := by decide +kernel
theorem dL_moves_434 : decode cL_moves 434 = .ok (.invokevirtual 162, 3) := by decide +kernel
theorem dL_moves_437 : decode cL_moves 437 = .ok (.iconst 1, 1) := by decide +kernel
theorem dL_moves_438 : decode cL_moves 438 = .ok (.if_icmp .ne 13, 3) := by decide +kernel
theorem dL_moves_441 : decode cL_moves 441 = .ok (.aload_n 0, 1) := by decide +kernel
theorem dL_moves_442 : decode cL_moves 442 = .ok (.getfield 20, 3) := by decide +kernel
theorem dL_moves_445 : decode cL_moves 445 = .ok (.iload 19, 2) := by decide +kernel
theorem dL_moves_447 : decode cL_moves 447 = .ok (.iaload, 1) := by decide +kernel
theorem dL_moves_448 : decode cL_moves 448 = .ok (.goto 4, 3) := by decide +kernel
theorem dL_moves_451 : decode cL_moves 451 = .ok (.iconst 0, 1) := by decide +kernel
theorem dL_moves_452 : decode cL_moves 452 = .ok (.iadd, 1) := by decide +kernel
theorem dL_moves_453 : decode cL_moves 453 = .ok (.istore 17, 2) := by decide +kernel
theorem dL_moves_455 : decode cL_moves 455 = .ok (.aload_n 0, 1) := by decide +kernel
theorem dL_moves_456 : decode cL_moves 456 = .ok (.getfield 10, 3) := by decide +kernel
theorem dL_moves_459 : decode cL_moves 459 = .ok (.iload 19, 2) := by decide +kernel
theorem dL_moves_461 : decode cL_moves 461 = .ok (.invokevirtual 165, 3) := by decide +kernel
theorem dL_moves_464 : decode cL_moves 464 = .ok (.iconst 1, 1) := by decide +kernel
theorem dL_moves_465 : decode cL_moves 465 = .ok (.if_icmp .ne 15, 3) := by decide +kernel
theorem dL_moves_468 : decode cL_moves 468 = .ok (.aload_n 0, 1) := by decide +kernel
theorem dL_moves_469 : decode cL_moves 469 = .ok (.getfield 10, 3) := by decide +kernel
theorem dL_moves_472 : decode cL_moves 472 = .ok (.iload 19, 2) := by decide +kernel
theorem dL_moves_474 : decode cL_moves 474 = .ok (.invokevirtual 162, 3) := by decide +kernel
theorem dL_moves_477 : decode cL_moves 477 = .ok (.ifCond .eq 28, 3) := by decide +kernel
theorem dL_moves_480 : decode cL_moves 480 = .ok (.aload_n 0, 1) := by decide +kernel
theorem dL_moves_481 : decode cL_moves 481 = .ok (.getfield 10, 3) := by decide +kernel
theorem dL_moves_484 : decode cL_moves 484 = .ok (.iload 19, 2) := by decide +kernel
theorem dL_moves_486 : decode cL_moves 486 = .ok (.invokevirtual 165, 3) := by decide +kernel
theorem dL_moves_489 : decode cL_moves 489 = .ok (.iconst 2, 1) := by decide +kernel
theorem dL_moves_490 : decode cL_moves 490 = .ok (.if_icmp .ne 17, 3) := by decide +kernel
theorem dL_moves_493 : decode cL_moves 493 = .ok (.aload_n 0, 1) := by decide +kernel
theorem dL_moves_494 : decode cL_moves 494 = .ok (.getfield 10, 3) := by decide +kernel
theorem dL_moves_497 : decode cL_moves 497 = .ok (.iload 19, 2) := by decide +kernel
theorem dL_moves_499 : decode cL_moves 499 = .ok (.invokevirtual 162, 3) := by decide +kernel
theorem dL_moves_502 : decode cL_moves 502 = .ok (.ifCond .eq 5, 3) := by decide +kernel
theorem dL_moves_505 : decode cL_moves 505 = .ok (.iconst 0, 1) := by decide +kernel
theorem dL_moves_506 : decode cL_moves 506 = .ok (.ireturn, 1) := by decide +kernel
theorem dL_moves_507 : decode cL_moves 507 = .ok (.iinc 19 1, 3) := by decide +kernel
theorem dL_moves_510 : decode cL_moves 510 = .ok (.goto (-113), 3) := by decide +kernel
theorem dL_moves_513 : decode cL_moves 513 = .ok (.iconst 0, 1) := by decide +kernel
theorem dL_moves_514 : decode cL_moves 514 = .ok (.istore 19, 2) := by decide +kernel
theorem dL_moves_516 : decode cL_moves 516 = .ok (.iload 19, 2) := by decide +kernel
theorem dL_moves_518 : decode cL_moves 518 = .ok (.iload_n 1, 1) := by decide +kernel
theorem dL_moves_519 : decode cL_moves 519 = .ok (.if_icmp .ge 158, 3) := by decide +kernel
theorem dL_moves_522 : decode cL_moves 522 = .ok (.aload_n 0, 1) := by decide +kernel
theorem dL_moves_523 : decode cL_moves 523 = .ok (.getfield 10, 3) := by decide +kernel
theorem dL_moves_526 : decode cL_moves 526 = .ok (.iload 19, 2) := by decide +kernel
theorem dL_moves_528 : decode cL_moves 528 = .ok (.invokevirtual 168, 3) := by decide +kernel
theorem dL_moves_531 : decode cL_moves 531 = .ok (.istore 20, 2) := by decide +kernel
theorem dL_moves_533 : decode cL_moves 533 = .ok (.iload 18, 2) := by decide +kernel
theorem dL_moves_535 : decode cL_moves 535 = .ok (.aload_n 0, 1) := by decide +kernel
theorem dL_moves_536 : decode cL_moves 536 = .ok (.getfield 10, 3) := by decide +kernel
theorem dL_moves_539 : decode cL_moves 539 = .ok (.iload 19, 2) := by decide +kernel
theorem dL_moves_541 : decode cL_moves 541 = .ok (.invokevirtual 171, 3) := by decide +kernel
theorem dL_moves_544 : decode cL_moves 544 = .ok (.ifCond .ge 7, 3) := by decide +kernel
theorem dL_moves_547 : decode cL_moves 547 = .ok (.iconst 1, 1) := by decide +kernel
theorem dL_moves_548 : decode cL_moves 548 = .ok (.goto 4, 3) := by decide +kernel
theorem dL_moves_551 : decode cL_moves 551 = .ok (.iconst 0, 1) := by decide +kernel
theorem dL_moves_552 : decode cL_moves 552 = .ok (.iadd, 1) := by decide +kernel
theorem dL_moves_553 : decode cL_moves 553 = .ok (.istore 18, 2) := by decide +kernel
theorem dL_moves_555 : decode cL_moves 555 = .ok (.aload_n 0, 1) := by decide +kernel
theorem dL_moves_556 : decode cL_moves 556 = .ok (.getfield 10, 3) := by decide +kernel
theorem dL_moves_559 : decode cL_moves 559 = .ok (.iload 19, 2) := by decide +kernel
theorem dL_moves_561 : decode cL_moves 561 = .ok (.invokevirtual 147, 3) := by decide +kernel
theorem dL_moves_564 : decode cL_moves 564 = .ok (.aload 9, 2) := by decide +kernel
theorem dL_moves_566 : decode cL_moves 566 = .ok (.iload 19, 2) := by decide +kernel
theorem dL_moves_568 : decode cL_moves 568 = .ok (.iaload, 1) := by decide +kernel
theorem dL_moves_569 : decode cL_moves 569 = .ok (.iload 20, 2) := by decide +kernel
theorem dL_moves_571 : decode cL_moves 571 = .ok (.invokestatic 159, 3) := by decide +kernel
theorem dL_moves_574 : decode cL_moves 574 = .ok (.if_icmp .ne 95, 3) := by decide +kernel
theorem dL_moves_577 : decode cL_moves 577 = .ok (.aload_n 0, 1) := by decide +kernel
theorem dL_moves_578 : decode cL_moves 578 = .ok (.getfield 10, 3) := by decide +kernel
theorem dL_moves_581 : decode cL_moves 581 = .ok (.iload 19, 2) := by decide +kernel
theorem dL_moves_583 : decode cL_moves 583 = .ok (.invokevirtual 150, 3) := by decide +kernel
theorem dL_moves_586 : decode cL_moves 586 = .ok (.aload 10, 2) := by decide +kernel
theorem dL_moves_588 : decode cL_moves 588 = .ok (.iload 19, 2) := by decide +kernel
theorem dL_moves_590 : decode cL_moves 590 = .ok (.iaload, 1) := by decide +kernel
theorem dL_moves_591 : decode cL_moves 591 = .ok (.iload 20, 2) := by decide +kernel
theorem dL_moves_593 : decode cL_moves 593 = .ok (.invokestatic 35, 3) := by decide +kernel
theorem dL_moves_596 : decode cL_moves 596 = .ok (.if_icmp .ne 73, 3) := by decide +kernel
theorem dL_moves_599 : decode cL_moves 599 = .ok (.iload 20, 2) := by decide +kernel
theorem dL_moves_601 : decode cL_moves 601 = .ok (.ldc 174, 2) := by decide +kernel
theorem dL_moves_603 : decode cL_moves 603 = .ok (.if_icmp .lt 66, 3) := by decide +kernel
theorem dL_moves_606 : decode cL_moves 606 = .ok (.iload 20, 2) := by decide +kernel
theorem dL_moves_608 : decode cL_moves 608 = .ok (.ldc 175, 2) := by decide +kernel
theorem dL_moves_610 : decode cL_moves 610 = .ok (.if_icmp .gt 59, 3) := by decide +kernel
theorem dL_moves_613 : decode cL_moves 613 = .ok (.aload_n 0, 1) := by decide +kernel
theorem dL_moves_614 : decode cL_moves 614 = .ok (.getfield 10, 3) := by decide +kernel
theorem dL_moves_617 : decode cL_moves 617 = .ok (.iload 19, 2) := by decide +kernel
theorem dL_moves_619 : decode cL_moves 619 = .ok (.invokevirtual 176, 3) := by decide +kernel
theorem dL_moves_622 : decode cL_moves 622 = .ok (.ifCond .le 7, 3) := by decide +kernel
theorem dL_moves_625 : decode cL_moves 625 = .ok (.iconst 1, 1) := by decide +kernel
theorem dL_moves_626 : decode cL_moves 626 = .ok (.goto 4, 3) := by decide +kernel
theorem dL_moves_629 : decode cL_moves 629 = .ok (.iconst 0, 1) := by decide +kernel
theorem dL_moves_630 : decode cL_moves 630 = .ok (.aload_n 0, 1) := by decide +kernel
theorem dL_moves_631 : decode cL_moves 631 = .ok (.getfield 10, 3) := by decide +kernel
theorem dL_moves_634 : decode cL_moves 634 = .ok (.iload 19, 2) := by decide +kernel
theorem dL_moves_636 : decode cL_moves 636 = .ok (.invokevirtual 179, 3) := by decide +kernel
theorem dL_moves_639 : decode cL_moves 639 = .ok (.ifCond .lt 7, 3) := by decide +kernel
theorem dL_moves_642 : decode cL_moves 642 = .ok (.iconst 1, 1) := by decide +kernel
theorem dL_moves_643 : decode cL_moves 643 = .ok (.goto 4, 3) := by decide +kernel
theorem dL_moves_646 : decode cL_moves 646 = .ok (.iconst 0, 1) := by decide +kernel
theorem dL_moves_647 : decode cL_moves 647 = .ok (.if_icmp .ne 22, 3) := by decide +kernel
theorem dL_moves_650 : decode cL_moves 650 = .ok (.aload_n 0, 1) := by decide +kernel
theorem dL_moves_651 : decode cL_moves 651 = .ok (.getfield 10, 3) := by decide +kernel
theorem dL_moves_654 : decode cL_moves 654 = .ok (.iload 19, 2) := by decide +kernel
theorem dL_moves_656 : decode cL_moves 656 = .ok (.invokevirtual 179, 3) := by decide +kernel
theorem dL_moves_659 : decode cL_moves 659 = .ok (.aload_n 0, 1) := by decide +kernel
theorem dL_moves_660 : decode cL_moves 660 = .ok (.getfield 10, 3) := by decide +kernel
theorem dL_moves_663 : decode cL_moves 663 = .ok (.invokevirtual 129, 3) := by decide +kernel
theorem dL_moves_666 : decode cL_moves 666 = .ok (.if_icmp .le 5, 3) := by decide +kernel
theorem dL_moves_669 : decode cL_moves 669 = .ok (.iconst 0, 1) := by decide +kernel
theorem dL_moves_670 : decode cL_moves 670 = .ok (.ireturn, 1) := by decide +kernel
theorem dL_moves_671 : decode cL_moves 671 = .ok (.iinc 19 1, 3) := by decide +kernel
theorem dL_moves_674 : decode cL_moves 674 = .ok (.goto (-158), 3) := by decide +kernel
theorem dL_moves_677 : decode cL_moves 677 = .ok (.aload_n 0, 1) := by decide +kernel
theorem dL_moves_678 : decode cL_moves 678 = .ok (.getfield 10, 3) := by decide +kernel
theorem dL_moves_681 : decode cL_moves 681 = .ok (.invokevirtual 129, 3) := by decide +kernel
theorem dL_moves_684 : decode cL_moves 684 = .ok (.iload 4, 2) := by decide +kernel
theorem dL_moves_686 : decode cL_moves 686 = .ok (.iload 14, 2) := by decide +kernel
theorem dL_moves_688 : decode cL_moves 688 = .ok (.iadd, 1) := by decide +kernel
theorem dL_moves_689 : decode cL_moves 689 = .ok (.if_icmp .ne 57, 3) := by decide +kernel
theorem dL_moves_692 : decode cL_moves 692 = .ok (.aload_n 0, 1) := by decide +kernel
theorem dL_moves_693 : decode cL_moves 693 = .ok (.getfield 10, 3) := by decide +kernel
theorem dL_moves_696 : decode cL_moves 696 = .ok (.invokevirtual 120, 3) := by decide +kernel
theorem dL_moves_699 : decode cL_moves 699 = .ok (.iload 17, 2) := by decide +kernel
theorem dL_moves_701 : decode cL_moves 701 = .ok (.if_icmp .ne 45, 3) := by decide +kernel
theorem dL_moves_704 : decode cL_moves 704 = .ok (.aload_n 0, 1) := by decide +kernel
theorem dL_moves_705 : decode cL_moves 705 = .ok (.getfield 10, 3) := by decide +kernel
theorem dL_moves_708 : decode cL_moves 708 = .ok (.invokevirtual 132, 3) := by decide +kernel
theorem dL_moves_711 : decode cL_moves 711 = .ok (.iload 5, 2) := by decide +kernel
theorem dL_moves_713 : decode cL_moves 713 = .ok (.iload 16, 2) := by decide +kernel
theorem dL_moves_715 : decode cL_moves 715 = .ok (.iadd, 1) := by decide +kernel
theorem dL_moves_716 : decode cL_moves 716 = .ok (.if_icmp .ne 30, 3) := by decide +kernel
theorem dL_moves_719 : decode cL_moves 719 = .ok (.aload_n 0, 1) := by decide +kernel
theorem dL_moves_720 : decode cL_moves 720 = .ok (.getfield 10, 3) := by decide +kernel
theorem dL_moves_723 : decode cL_moves 723 = .ok (.invokevirtual 135, 3) := by decide +kernel
theorem dL_moves_726 : decode cL_moves 726 = .ok (.iload 6, 2) := by decide +kernel
theorem dL_moves_728 : decode cL_moves 728 = .ok (.if_icmp .lt 18, 3) := by decide +kernel
theorem dL_moves_731 : decode cL_moves 731 = .ok (.iload 15, 2) := by decide +kernel
theorem dL_moves_733 : decode cL_moves 733 = .ok (.iload 18, 2) := by decide +kernel
theorem dL_moves_735 : decode cL_moves 735 = .ok (.ifCond .le 7, 3) := by decide +kernel
theorem dL_moves_738 : decode cL_moves 738 = .ok (.iconst 1, 1) := by decide +kernel
theorem dL_moves_739 : decode cL_moves 739 = .ok (.goto 4, 3) := by decide +kernel
theorem dL_moves_742 : decode cL_moves 742 = .ok (.iconst 0, 1) := by decide +kernel
theorem dL_moves_743 : decode cL_moves 743 = .ok (.if_icmp .eq 5, 3) := by decide +kernel
theorem dL_moves_746 : decode cL_moves 746 = .ok (.iconst 0, 1) := by decide +kernel
theorem dL_moves_747 : decode cL_moves 747 = .ok (.ireturn, 1) := by decide +kernel
theorem dL_moves_748 : decode cL_moves 748 = .ok (.aload_n 0, 1) := by decide +kernel
theorem dL_moves_749 : decode cL_moves 749 = .ok (.getfield 10, 3) := by decide +kernel
theorem dL_moves_752 : decode cL_moves 752 = .ok (.iconst 1, 1) := by decide +kernel
theorem dL_moves_753 : decode cL_moves 753 = .ok (.invokevirtual 138, 3) := by decide +kernel
theorem dL_moves_756 : decode cL_moves 756 = .ok (.aload 11, 2) := by decide +kernel
theorem dL_moves_758 : decode cL_moves 758 = .ok (.iconst 1, 1) := by decide +kernel
theorem dL_moves_759 : decode cL_moves 759 = .ok (.laload, 1) := by decide +kernel
theorem dL_moves_760 : decode cL_moves 760 = .ok (.iload 14, 2) := by decide +kernel
theorem dL_moves_762 : decode cL_moves 762 = .ok (.i2l, 1) := by decide +kernel
theorem dL_moves_763 : decode cL_moves 763 = .ok (.lload 12, 2) := by decide +kernel
theorem dL_moves_765 : decode cL_moves 765 = .ok (.lmul, 1) := by decide +kernel
theorem dL_moves_766 : decode cL_moves 766 = .ok (.ladd, 1) := by decide +kernel
theorem dL_moves_767 : decode cL_moves 767 = .ok (.lcmp, 1) := by decide +kernel
theorem dL_moves_768 : decode cL_moves 768 = .ok (.ifCond .ne 47, 3) := by decide +kernel
theorem dL_moves_771 : decode cL_moves 771 = .ok (.aload_n 0, 1) := by decide +kernel
theorem dL_moves_772 : decode cL_moves 772 = .ok (.getfield 10, 3) := by decide +kernel
theorem dL_moves_775 : decode cL_moves 775 = .ok (.iconst 2, 1) := by decide +kernel
theorem dL_moves_776 : decode cL_moves 776 = .ok (.invokevirtual 138, 3) := by decide +kernel
theorem dL_moves_779 : decode cL_moves 779 = .ok (.aload 11, 2) := by decide +kernel
theorem dL_moves_781 : decode cL_moves 781 = .ok (.iconst 2, 1) := by decide +kernel
theorem dL_moves_782 : decode cL_moves 782 = .ok (.laload, 1) := by decide +kernel
theorem dL_moves_783 : decode cL_moves 783 = .ok (.iload 14, 2) := by decide +kernel
theorem dL_moves_785 : decode cL_moves 785 = .ok (.i2l, 1) := by decide +kernel
theorem dL_moves_786 : decode cL_moves 786 = .ok (.iload 17, 2) := by decide +kernel
theorem dL_moves_788 : decode cL_moves 788 = .ok (.i2l, 1) := by decide +kernel
theorem dL_moves_789 : decode cL_moves 789 = .ok (.lmul, 1) := by decide +kernel
theorem dL_moves_790 : decode cL_moves 790 = .ok (.ladd, 1) := by decide +kernel
theorem dL_moves_791 : decode cL_moves 791 = .ok (.lcmp, 1) := by decide +kernel
theorem dL_moves_792 : decode cL_moves 792 = .ok (.ifCond .ne 23, 3) := by decide +kernel
theorem dL_moves_795 : decode cL_moves 795 = .ok (.aload_n 0, 1) := by decide +kernel
theorem dL_moves_796 : decode cL_moves 796 = .ok (.getfield 10, 3) := by decide +kernel
theorem dL_moves_799 : decode cL_moves 799 = .ok (.iconst 0, 1) := by decide +kernel
theorem dL_moves_800 : decode cL_moves 800 = .ok (.invokevirtual 138, 3) := by decide +kernel
theorem dL_moves_803 : decode cL_moves 803 = .ok (.aload 11, 2) := by decide +kernel
theorem dL_moves_805 : decode cL_moves 805 = .ok (.iconst 0, 1) := by decide +kernel
theorem dL_moves_806 : decode cL_moves 806 = .ok (.laload, 1) := by decide +kernel
theorem dL_moves_807 : decode cL_moves 807 = .ok (.lcmp, 1) := by decide +kernel
theorem dL_moves_808 : decode cL_moves 808 = .ok (.ifCond .lt 7, 3) := by decide +kernel
theorem dL_moves_811 : decode cL_moves 811 = .ok (.iconst 1, 1) := by decide +kernel
theorem dL_moves_812 : decode cL_moves 812 = .ok (.goto 4, 3) := by decide +kernel
theorem dL_moves_815 : decode cL_moves 815 = .ok (.iconst 0, 1) := by decide +kernel
theorem dL_moves_816 : decode cL_moves 816 = .ok (.ireturn, 1) := by decide +kernel
theorem dL_sheds_0 : decode cL_sheds 0 = .ok (.aload_n 0, 1) := by decide +kernel
theorem dL_sheds_1 : decode cL_sheds 1 = .ok (.getfield 10, 3) := by decide +kernel
theorem dL_sheds_4 : decode cL_sheds 4 = .ok (.invokevirtual 126, 3) := by decide +kernel
theorem dL_sheds_7 : decode cL_sheds 7 = .ok (.istore_n 1, 1) := by decide +kernel
theorem dL_sheds_8 : decode cL_sheds 8 = .ok (.iconst 0, 1) := by decide +kernel
theorem dL_sheds_9 : decode cL_sheds 9 = .ok (.istore_n 2, 1) := by decide +kernel
theorem dL_sheds_10 : decode cL_sheds 10 = .ok (.iload_n 2, 1) := by decide +kernel
theorem dL_sheds_11 : decode cL_sheds 11 = .ok (.iload_n 1, 1) := by decide +kernel
theorem dL_sheds_12 : decode cL_sheds 12 = .ok (.if_icmp .ge 110, 3) := by decide +kernel
theorem dL_sheds_15 : decode cL_sheds 15 = .ok (.iconst 0, 1) := by decide +kernel
theorem dL_sheds_16 : decode cL_sheds 16 = .ok (.istore_n 3, 1) := by decide +kernel
theorem dL_sheds_17 : decode cL_sheds 17 = .ok (.iload_n 3, 1) := by decide +kernel
theorem dL_sheds_18 : decode cL_sheds 18 = .ok (.iload_n 1, 1) := by decide +kernel
theorem dL_sheds_19 : decode cL_sheds 19 = .ok (.if_icmp .ge 97, 3) := by decide +kernel
theorem dL_sheds_22 : decode cL_sheds 22 = .ok (.aload_n 0, 1) := by decide +kernel
theorem dL_sheds_23 : decode cL_sheds 23 = .ok (.getfield 16, 3) := by decide +kernel
theorem dL_sheds_26 : decode cL_sheds 26 = .ok (.iload_n 2, 1) := by decide +kernel
theorem dL_sheds_27 : decode cL_sheds 27 = .ok (.iaload, 1) := by decide +kernel
theorem dL_sheds_28 : decode cL_sheds 28 = .ok (.aload_n 0, 1) := by decide +kernel
theorem dL_sheds_29 : decode cL_sheds 29 = .ok (.getfield 16, 3) := by decide +kernel
theorem dL_sheds_32 : decode cL_sheds 32 = .ok (.iload_n 3, 1) := by decide +kernel
theorem dL_sheds_33 : decode cL_sheds 33 = .ok (.iaload, 1) := by decide +kernel
theorem dL_sheds_34 : decode cL_sheds 34 = .ok (.if_icmp .gt 23, 3) := by decide +kernel
theorem dL_sheds_37 : decode cL_sheds 37 = .ok (.aload_n 0, 1) := by decide +kernel
theorem dL_sheds_38 : decode cL_sheds 38 = .ok (.getfield 16, 3) := by decide +kernel
theorem dL_sheds_41 : decode cL_sheds 41 = .ok (.iload_n 2, 1) := by decide +kernel
theorem dL_sheds_42 : decode cL_sheds 42 = .ok (.iaload, 1) := by decide +kernel
theorem dL_sheds_43 : decode cL_sheds 43 = .ok (.aload_n 0, 1) := by decide +kernel
theorem dL_sheds_44 : decode cL_sheds 44 = .ok (.getfield 16, 3) := by decide +kernel
theorem dL_sheds_47 : decode cL_sheds 47 = .ok (.iload_n 3, 1) := by decide +kernel
theorem dL_sheds_48 : decode cL_sheds 48 = .ok (.iaload, 1) := by decide +kernel
theorem dL_sheds_49 : decode cL_sheds 49 = .ok (.if_icmp .ne 12, 3) := by decide +kernel
theorem dL_sheds_52 : decode cL_sheds 52 = .ok (.iload_n 2, 1) := by decide +kernel
theorem dL_sheds_53 : decode cL_sheds 53 = .ok (.iload_n 3, 1) := by decide +kernel
theorem dL_sheds_54 : decode cL_sheds 54 = .ok (.if_icmp .ge 7, 3) := by decide +kernel
theorem dL_sheds_57 : decode cL_sheds 57 = .ok (.iconst 1, 1) := by decide +kernel
theorem dL_sheds_58 : decode cL_sheds 58 = .ok (.goto 4, 3) := by decide +kernel
theorem dL_sheds_61 : decode cL_sheds 61 = .ok (.iconst 0, 1) := by decide +kernel
theorem dL_sheds_62 : decode cL_sheds 62 = .ok (.istore 4, 2) := by decide +kernel
theorem dL_sheds_64 : decode cL_sheds 64 = .ok (.iload 4, 2) := by decide +kernel
theorem dL_sheds_66 : decode cL_sheds 66 = .ok (.ifCond .eq 44, 3) := by decide +kernel
theorem dL_sheds_69 : decode cL_sheds 69 = .ok (.aload_n 0, 1) := by decide +kernel
theorem dL_sheds_70 : decode cL_sheds 70 = .ok (.getfield 10, 3) := by decide +kernel
theorem dL_sheds_73 : decode cL_sheds 73 = .ok (.iload_n 2, 1) := by decide +kernel
theorem dL_sheds_74 : decode cL_sheds 74 = .ok (.invokevirtual 162, 3) := by decide +kernel
theorem dL_sheds_77 : decode cL_sheds 77 = .ok (.iconst 2, 1) := by decide +kernel
theorem dL_sheds_78 : decode cL_sheds 78 = .ok (.if_icmp .ne 32, 3) := by decide +kernel
theorem dL_sheds_81 : decode cL_sheds 81 = .ok (.aload_n 0, 1) := by decide +kernel
theorem dL_sheds_82 : decode cL_sheds 82 = .ok (.getfield 10, 3) := by decide +kernel
theorem dL_sheds_85 : decode cL_sheds 85 = .ok (.iload_n 3, 1) := by decide +kernel
theorem dL_sheds_86 : decode cL_sheds 86 = .ok (.invokevirtual 162, 3) := by decide +kernel
theorem dL_sheds_89 : decode cL_sheds 89 = .ok (.iconst 1, 1) := by decide +kernel
theorem dL_sheds_90 : decode cL_sheds 90 = .ok (.if_icmp .ne 20, 3) := by decide +kernel
theorem dL_sheds_93 : decode cL_sheds 93 = .ok (.aload_n 0, 1) := by decide +kernel
theorem dL_sheds_94 : decode cL_sheds 94 = .ok (.getfield 20, 3) := by decide +kernel
theorem dL_sheds_97 : decode cL_sheds 97 = .ok (.iload_n 3, 1) := by decide +kernel
theorem dL_sheds_98 : decode cL_sheds 98 = .ok (.iaload, 1) := by decide +kernel
theorem dL_sheds_99 : decode cL_sheds 99 = .ok (.aload_n 0, 1) := by decide +kernel
theorem dL_sheds_100 : decode cL_sheds 100 = .ok (.getfield 20, 3) := by decide +kernel
theorem dL_sheds_103 : decode cL_sheds 103 = .ok (.iload_n 2, 1) := by decide +kernel
theorem dL_sheds_104 : decode cL_sheds 104 = .ok (.iaload, 1) := by decide +kernel
theorem dL_sheds_105 : decode cL_sheds 105 = .ok (.if_icmp .lt 5, 3) := by decide +kernel
theorem dL_sheds_108 : decode cL_sheds 108 = .ok (.iconst 0, 1) := by decide +kernel
theorem dL_sheds_109 : decode cL_sheds 109 = .ok (.ireturn, 1) := by decide +kernel
theorem dL_sheds_110 : decode cL_sheds 110 = .ok (.iinc 3 1, 3) := by decide +kernel
theorem dL_sheds_113 : decode cL_sheds 113 = .ok (.goto (-96), 3) := by decide +kernel
theorem dL_sheds_116 : decode cL_sheds 116 = .ok (.iinc 2 1, 3) := by decide +kernel
theorem dL_sheds_119 : decode cL_sheds 119 = .ok (.goto (-109), 3) := by decide +kernel
theorem dL_sheds_122 : decode cL_sheds 122 = .ok (.iconst 1, 1) := by decide +kernel
theorem dL_sheds_123 : decode cL_sheds 123 = .ok (.ireturn, 1) := by decide +kernel
theorem dL_holdsCharge_0 : decode cL_holdsCharge 0 = .ok (.sipush 1000, 3) := by decide +kernel
theorem dL_holdsCharge_3 : decode cL_holdsCharge 3 = .ok (.aload_n 0, 1) := by decide +kernel
theorem dL_holdsCharge_4 : decode cL_holdsCharge 4 = .ok (.ldc 182, 2) := by decide +kernel
theorem dL_holdsCharge_6 : decode cL_holdsCharge 6 = .ok (.invokevirtual 65, 3) := by decide +kernel
theorem dL_holdsCharge_9 : decode cL_holdsCharge 9 = .ok (.iadd, 1) := by decide +kernel
theorem dL_holdsCharge_10 : decode cL_holdsCharge 10 = .ok (.istore_n 1, 1) := by decide +kernel
theorem dL_holdsCharge_11 : decode cL_holdsCharge 11 = .ok (.aload_n 0, 1) := by decide +kernel
theorem dL_holdsCharge_12 : decode cL_holdsCharge 12 = .ok (.iload_n 1, 1) := by decide +kernel
theorem dL_holdsCharge_13 : decode cL_holdsCharge 13 = .ok (.iconst 1, 1) := by decide +kernel
theorem dL_holdsCharge_14 : decode cL_holdsCharge 14 = .ok (.iadd, 1) := by decide +kernel
theorem dL_holdsCharge_15 : decode cL_holdsCharge 15 = .ok (.invokevirtual 65, 3) := by decide +kernel
theorem dL_holdsCharge_18 : decode cL_holdsCharge 18 = .ok (.istore_n 2, 1) := by decide +kernel
theorem dL_holdsCharge_19 : decode cL_holdsCharge 19 = .ok (.aload_n 0, 1) := by decide +kernel
theorem dL_holdsCharge_20 : decode cL_holdsCharge 20 = .ok (.getfield 10, 3) := by decide +kernel
theorem dL_holdsCharge_23 : decode cL_holdsCharge 23 = .ok (.aload_n 0, 1) := by decide +kernel
theorem dL_holdsCharge_24 : decode cL_holdsCharge 24 = .ok (.sipush 20000, 3) := by decide +kernel
theorem dL_holdsCharge_27 : decode cL_holdsCharge 27 = .ok (.invokevirtual 65, 3) := by decide +kernel
theorem dL_holdsCharge_30 : decode cL_holdsCharge 30 = .ok (.aload_n 0, 1) := by decide +kernel
theorem dL_holdsCharge_31 : decode cL_holdsCharge 31 = .ok (.sipush 9000, 3) := by decide +kernel
theorem dL_holdsCharge_34 : decode cL_holdsCharge 34 = .ok (.invokevirtual 65, 3) := by decide +kernel
theorem dL_holdsCharge_37 : decode cL_holdsCharge 37 = .ok (.iload_n 1, 1) := by decide +kernel
theorem dL_holdsCharge_38 : decode cL_holdsCharge 38 = .ok (.iload_n 2, 1) := by decide +kernel
theorem dL_holdsCharge_39 : decode cL_holdsCharge 39 = .ok (.invokevirtual 94, 3) := by decide +kernel
theorem dL_holdsCharge_42 : decode cL_holdsCharge 42 = .ok (.ifCond .eq 5, 3) := by decide +kernel
theorem dL_holdsCharge_45 : decode cL_holdsCharge 45 = .ok (.iconst 0, 1) := by decide +kernel
theorem dL_holdsCharge_46 : decode cL_holdsCharge 46 = .ok (.ireturn, 1) := by decide +kernel
theorem dL_holdsCharge_47 : decode cL_holdsCharge 47 = .ok (.iconst 0, 1) := by decide +kernel
theorem dL_holdsCharge_48 : decode cL_holdsCharge 48 = .ok (.istore_n 3, 1) := by decide +kernel
theorem dL_holdsCharge_49 : decode cL_holdsCharge 49 = .ok (.iload_n 3, 1) := by decide +kernel
theorem dL_holdsCharge_50 : decode cL_holdsCharge 50 = .ok (.bipush 12, 2) := by decide +kernel
theorem dL_holdsCharge_52 : decode cL_holdsCharge 52 = .ok (.if_icmp .ge 43, 3) := by decide +kernel
theorem dL_holdsCharge_55 : decode cL_holdsCharge 55 = .ok (.aload_n 0, 1) := by decide +kernel
theorem dL_holdsCharge_56 : decode cL_holdsCharge 56 = .ok (.getfield 10, 3) := by decide +kernel
theorem dL_holdsCharge_59 : decode cL_holdsCharge 59 = .ok (.iconst 1, 1) := by decide +kernel
theorem dL_holdsCharge_60 : decode cL_holdsCharge 60 = .ok (.invokevirtual 153, 3) := by decide +kernel
theorem dL_holdsCharge_63 : decode cL_holdsCharge 63 = .ok (.ifCond .lt 24, 3) := by decide +kernel
theorem dL_holdsCharge_66 : decode cL_holdsCharge 66 = .ok (.aload_n 0, 1) := by decide +kernel
theorem dL_holdsCharge_67 : decode cL_holdsCharge 67 = .ok (.getfield 10, 3) := by decide +kernel
theorem dL_holdsCharge_70 : decode cL_holdsCharge 70 = .ok (.invokevirtual 183, 3) := by decide +kernel
theorem dL_holdsCharge_73 : decode cL_holdsCharge 73 = .ok (.ifCond .lt 14, 3) := by decide +kernel
theorem dL_holdsCharge_76 : decode cL_holdsCharge 76 = .ok (.aload_n 0, 1) := by decide +kernel
theorem dL_holdsCharge_77 : decode cL_holdsCharge 77 = .ok (.getfield 10, 3) := by decide +kernel
theorem dL_holdsCharge_80 : decode cL_holdsCharge 80 = .ok (.invokevirtual 183, 3) := by decide +kernel
theorem dL_holdsCharge_83 : decode cL_holdsCharge 83 = .ok (.iload_n 1, 1) := by decide +kernel
theorem dL_holdsCharge_84 : decode cL_holdsCharge 84 = .ok (.if_icmp .le 5, 3) := by decide +kernel
theorem dL_holdsCharge_87 : decode cL_holdsCharge 87 = .ok (.iconst 0, 1) := by decide +kernel
theorem dL_holdsCharge_88 : decode cL_holdsCharge 88 = .ok (.ireturn, 1) := by decide +kernel
theorem dL_holdsCharge_89 : decode cL_holdsCharge 89 = .ok (.iinc 3 1, 3) := by decide +kernel
theorem dL_holdsCharge_92 : decode cL_holdsCharge 92 = .ok (.goto (-43), 3) := by decide +kernel
theorem dL_holdsCharge_95 : decode cL_holdsCharge 95 = .ok (.iconst 1, 1) := by decide +kernel
theorem dL_holdsCharge_96 : decode cL_holdsCharge 96 = .ok (.ireturn, 1) := by decide +kernel
theorem dL_rests_0 : decode cL_rests 0 = .ok (.aload_n 0, 1) := by decide +kernel
theorem dL_rests_1 : decode cL_rests 1 = .ok (.getfield 10, 3) := by decide +kernel
theorem dL_rests_4 : decode cL_rests 4 = .ok (.iconst 0, 1) := by decide +kernel
theorem dL_rests_5 : decode cL_rests 5 = .ok (.invokevirtual 186, 3) := by decide +kernel
theorem dL_rests_8 : decode cL_rests 8 = .ok (.ifCond .ne 5, 3) := by decide +kernel
theorem dL_rests_11 : decode cL_rests 11 = .ok (.iconst 0, 1) := by decide +kernel
theorem dL_rests_12 : decode cL_rests 12 = .ok (.ireturn, 1) := by decide +kernel
theorem dL_rests_13 : decode cL_rests 13 = .ok (.new 7, 3) := by decide +kernel
theorem dL_rests_16 : decode cL_rests 16 = .ok (.dup, 1) := by decide +kernel
theorem dL_rests_17 : decode cL_rests 17 = .ok (.invokespecial 9, 3) := by decide +kernel
theorem dL_rests_20 : decode cL_rests 20 = .ok (.astore_n 1, 1) := by decide +kernel
theorem dL_rests_21 : decode cL_rests 21 = .ok (.iconst 2, 1) := by decide +kernel
theorem dL_rests_22 : decode cL_rests 22 = .ok (.aload_n 0, 1) := by decide +kernel
theorem dL_rests_23 : decode cL_rests 23 = .ok (.iconst 5, 1) := by decide +kernel
theorem dL_rests_24 : decode cL_rests 24 = .ok (.invokevirtual 65, 3) := by decide +kernel
theorem dL_rests_27 : decode cL_rests 27 = .ok (.iadd, 1) := by decide +kernel
theorem dL_rests_28 : decode cL_rests 28 = .ok (.istore_n 2, 1) := by decide +kernel
theorem dL_rests_29 : decode cL_rests 29 = .ok (.ldc 190, 2) := by decide +kernel
theorem dL_rests_31 : decode cL_rests 31 = .ok (.istore_n 3, 1) := by decide +kernel
theorem dL_rests_32 : decode cL_rests 32 = .ok (.ldc 191, 2) := by decide +kernel
theorem dL_rests_34 : decode cL_rests 34 = .ok (.istore 4, 2) := by decide +kernel
theorem dL_rests_36 : decode cL_rests 36 = .ok (.iconst 0, 1) := by decide +kernel
theorem dL_rests_37 : decode cL_rests 37 = .ok (.istore 5, 2) := by decide +kernel
theorem dL_rests_39 : decode cL_rests 39 = .ok (.iload 5, 2) := by decide +kernel
theorem dL_rests_41 : decode cL_rests 41 = .ok (.iload_n 2, 1) := by decide +kernel
theorem dL_rests_42 : decode cL_rests 42 = .ok (.if_icmp .ge 63, 3) := by decide +kernel
theorem dL_rests_45 : decode cL_rests 45 = .ok (.aload_n 0, 1) := by decide +kernel
theorem dL_rests_46 : decode cL_rests 46 = .ok (.ldc 68, 2) := by decide +kernel
theorem dL_rests_48 : decode cL_rests 48 = .ok (.invokevirtual 65, 3) := by decide +kernel
theorem dL_rests_51 : decode cL_rests 51 = .ok (.sipush 30000, 3) := by decide +kernel
theorem dL_rests_54 : decode cL_rests 54 = .ok (.isub, 1) := by decide +kernel
theorem dL_rests_55 : decode cL_rests 55 = .ok (.istore 6, 2) := by decide +kernel
theorem dL_rests_57 : decode cL_rests 57 = .ok (.iload_n 3, 1) := by decide +kernel
theorem dL_rests_58 : decode cL_rests 58 = .ok (.iload 6, 2) := by decide +kernel
theorem dL_rests_60 : decode cL_rests 60 = .ok (.invokestatic 159, 3) := by decide +kernel
theorem dL_rests_63 : decode cL_rests 63 = .ok (.istore_n 3, 1) := by decide +kernel
theorem dL_rests_64 : decode cL_rests 64 = .ok (.iload 4, 2) := by decide +kernel
theorem dL_rests_66 : decode cL_rests 66 = .ok (.iload 6, 2) := by decide +kernel
theorem dL_rests_68 : decode cL_rests 68 = .ok (.invokestatic 35, 3) := by decide +kernel
theorem dL_rests_71 : decode cL_rests 71 = .ok (.istore 4, 2) := by decide +kernel
theorem dL_rests_73 : decode cL_rests 73 = .ok (.aload_n 1, 1) := by decide +kernel
theorem dL_rests_74 : decode cL_rests 74 = .ok (.sipush 20000, 3) := by decide +kernel
theorem dL_rests_77 : decode cL_rests 77 = .ok (.aload_n 0, 1) := by decide +kernel
theorem dL_rests_78 : decode cL_rests 78 = .ok (.ldc 192, 2) := by decide +kernel
theorem dL_rests_80 : decode cL_rests 80 = .ok (.invokevirtual 65, 3) := by decide +kernel
theorem dL_rests_83 : decode cL_rests 83 = .ok (.iadd, 1) := by decide +kernel
theorem dL_rests_84 : decode cL_rests 84 = .ok (.iload 6, 2) := by decide +kernel
theorem dL_rests_86 : decode cL_rests 86 = .ok (.iconst 0, 1) := by decide +kernel
theorem dL_rests_87 : decode cL_rests 87 = .ok (.iconst 0, 1) := by decide +kernel
theorem dL_rests_88 : decode cL_rests 88 = .ok (.iconst 0, 1) := by decide +kernel
theorem dL_rests_89 : decode cL_rests 89 = .ok (.invokevirtual 69, 3) := by decide +kernel
theorem dL_rests_92 : decode cL_rests 92 = .ok (.iload 5, 2) := by decide +kernel
theorem dL_rests_94 : decode cL_rests 94 = .ok (.if_icmp .eq 5, 3) := by decide +kernel
theorem dL_rests_97 : decode cL_rests 97 = .ok (.iconst 0, 1) := by decide +kernel
theorem dL_rests_98 : decode cL_rests 98 = .ok (.ireturn, 1) := by decide +kernel
theorem dL_rests_99 : decode cL_rests 99 = .ok (.iinc 5 1, 3) := by decide +kernel
theorem dL_rests_102 : decode cL_rests 102 = .ok (.goto (-63), 3) := by decide +kernel
theorem dL_rests_105 : decode cL_rests 105 = .ok (.iconst 1, 1) := by decide +kernel
theorem dL_rests_106 : decode cL_rests 106 = .ok (.istore 5, 2) := by decide +kernel
theorem dL_rests_108 : decode cL_rests 108 = .ok (.iload 5, 2) := by decide +kernel
theorem dL_rests_110 : decode cL_rests 110 = .ok (.iload_n 2, 1) := by decide +kernel
theorem dL_rests_111 : decode cL_rests 111 = .ok (.if_icmp .ge 35, 3) := by decide +kernel
theorem dL_rests_114 : decode cL_rests 114 = .ok (.aload_n 1, 1) := by decide +kernel
theorem dL_rests_115 : decode cL_rests 115 = .ok (.iload 5, 2) := by decide +kernel
theorem dL_rests_117 : decode cL_rests 117 = .ok (.aload_n 0, 1) := by decide +kernel
theorem dL_rests_118 : decode cL_rests 118 = .ok (.iload 5, 2) := by decide +kernel
theorem dL_rests_120 : decode cL_rests 120 = .ok (.invokevirtual 65, 3) := by decide +kernel
theorem dL_rests_123 : decode cL_rests 123 = .ok (.iconst 1, 1) := by decide +kernel
theorem dL_rests_124 : decode cL_rests 124 = .ok (.aload_n 0, 1) := by decide +kernel
theorem dL_rests_125 : decode cL_rests 125 = .ok (.sipush 300, 3) := by decide +kernel
theorem dL_rests_128 : decode cL_rests 128 = .ok (.invokevirtual 65, 3) := by decide +kernel
theorem dL_rests_131 : decode cL_rests 131 = .ok (.iadd, 1) := by decide +kernel
theorem dL_rests_132 : decode cL_rests 132 = .ok (.invokevirtual 76, 3) := by decide +kernel
theorem dL_rests_135 : decode cL_rests 135 = .ok (.ifCond .eq 5, 3) := by decide +kernel
theorem dL_rests_138 : decode cL_rests 138 = .ok (.iconst 0, 1) := by decide +kernel
theorem dL_rests_139 : decode cL_rests 139 = .ok (.ireturn, 1) := by decide +kernel
theorem dL_rests_140 : decode cL_rests 140 = .ok (.iinc 5 1, 3) := by decide +kernel
theorem dL_rests_143 : decode cL_rests 143 = .ok (.goto (-35), 3) := by decide +kernel
theorem dL_rests_146 : decode cL_rests 146 = .ok (.iconst 0, 1) := by decide +kernel
theorem dL_rests_147 : decode cL_rests 147 = .ok (.istore 5, 2) := by decide +kernel
theorem dL_rests_149 : decode cL_rests 149 = .ok (.iload 5, 2) := by decide +kernel
theorem dL_rests_151 : decode cL_rests 151 = .ok (.bipush 30, 2) := by decide +kernel
theorem dL_rests_153 : decode cL_rests 153 = .ok (.if_icmp .ge 64, 3) := by decide +kernel
theorem dL_rests_156 : decode cL_rests 156 = .ok (.aload_n 1, 1) := by decide +kernel
theorem dL_rests_157 : decode cL_rests 157 = .ok (.iconst 1, 1) := by decide +kernel
theorem dL_rests_158 : decode cL_rests 158 = .ok (.aload_n 0, 1) := by decide +kernel
theorem dL_rests_159 : decode cL_rests 159 = .ok (.bipush 20, 2) := by decide +kernel
theorem dL_rests_161 : decode cL_rests 161 = .ok (.invokevirtual 65, 3) := by decide +kernel
theorem dL_rests_164 : decode cL_rests 164 = .ok (.iadd, 1) := by decide +kernel
theorem dL_rests_165 : decode cL_rests 165 = .ok (.invokevirtual 153, 3) := by decide +kernel
theorem dL_rests_168 : decode cL_rests 168 = .ok (.ifCond .eq 5, 3) := by decide +kernel
theorem dL_rests_171 : decode cL_rests 171 = .ok (.iconst 0, 1) := by decide +kernel
theorem dL_rests_172 : decode cL_rests 172 = .ok (.ireturn, 1) := by decide +kernel
theorem dL_rests_173 : decode cL_rests 173 = .ok (.iconst 0, 1) := by decide +kernel
theorem dL_rests_174 : decode cL_rests 174 = .ok (.istore 6, 2) := by decide +kernel
theorem dL_rests_176 : decode cL_rests 176 = .ok (.iload 6, 2) := by decide +kernel
theorem dL_rests_178 : decode cL_rests 178 = .ok (.iload_n 2, 1) := by decide +kernel
theorem dL_rests_179 : decode cL_rests 179 = .ok (.if_icmp .ge 32, 3) := by decide +kernel
theorem dL_rests_182 : decode cL_rests 182 = .ok (.aload_n 1, 1) := by decide +kernel
theorem dL_rests_183 : decode cL_rests 183 = .ok (.iload 6, 2) := by decide +kernel
theorem dL_rests_185 : decode cL_rests 185 = .ok (.invokevirtual 168, 3) := by decide +kernel
theorem dL_rests_188 : decode cL_rests 188 = .ok (.iload_n 3, 1) := by decide +kernel
theorem dL_rests_189 : decode cL_rests 189 = .ok (.if_icmp .lt 14, 3) := by decide +kernel
theorem dL_rests_192 : decode cL_rests 192 = .ok (.aload_n 1, 1) := by decide +kernel
theorem dL_rests_193 : decode cL_rests 193 = .ok (.iload 6, 2) := by decide +kernel
theorem dL_rests_195 : decode cL_rests 195 = .ok (.invokevirtual 168, 3) := by decide +kernel
theorem dL_rests_198 : decode cL_rests 198 = .ok (.iload 4, 2) := by decide +kernel
theorem dL_rests_200 : decode cL_rests 200 = .ok (.if_icmp .le 5, 3) := by decide +kernel
theorem dL_rests_203 : decode cL_rests 203 = .ok (.iconst 0, 1) := by decide +kernel
theorem dL_rests_204 : decode cL_rests 204 = .ok (.ireturn, 1) := by decide +kernel
theorem dL_rests_205 : decode cL_rests 205 = .ok (.iinc 6 1, 3) := by decide +kernel
theorem dL_rests_208 : decode cL_rests 208 = .ok (.goto (-32), 3) := by decide +kernel
theorem dL_rests_211 : decode cL_rests 211 = .ok (.iinc 5 1, 3) := by decide +kernel
theorem dL_rests_214 : decode cL_rests 214 = .ok (.goto (-65), 3) := by decide +kernel
theorem dL_rests_217 : decode cL_rests 217 = .ok (.aload_n 1, 1) := by decide +kernel
theorem dL_rests_218 : decode cL_rests 218 = .ok (.iconst 0, 1) := by decide +kernel
theorem dL_rests_219 : decode cL_rests 219 = .ok (.invokevirtual 138, 3) := by decide +kernel
theorem dL_rests_222 : decode cL_rests 222 = .ok (.lconst 0, 1) := by decide +kernel
theorem dL_rests_223 : decode cL_rests 223 = .ok (.lcmp, 1) := by decide +kernel
theorem dL_rests_224 : decode cL_rests 224 = .ok (.ifCond .ne 38, 3) := by decide +kernel
theorem dL_rests_227 : decode cL_rests 227 = .ok (.aload_n 1, 1) := by decide +kernel
theorem dL_rests_228 : decode cL_rests 228 = .ok (.iconst 1, 1) := by decide +kernel
theorem dL_rests_229 : decode cL_rests 229 = .ok (.invokevirtual 138, 3) := by decide +kernel
theorem dL_rests_232 : decode cL_rests 232 = .ok (.lconst 0, 1) := by decide +kernel
theorem dL_rests_233 : decode cL_rests 233 = .ok (.lcmp, 1) := by decide +kernel
theorem dL_rests_234 : decode cL_rests 234 = .ok (.ifCond .ne 28, 3) := by decide +kernel
theorem dL_rests_237 : decode cL_rests 237 = .ok (.aload_n 1, 1) := by decide +kernel
theorem dL_rests_238 : decode cL_rests 238 = .ok (.iconst 2, 1) := by decide +kernel
theorem dL_rests_239 : decode cL_rests 239 = .ok (.invokevirtual 138, 3) := by decide +kernel
theorem dL_rests_242 : decode cL_rests 242 = .ok (.lconst 0, 1) := by decide +kernel
theorem dL_rests_243 : decode cL_rests 243 = .ok (.lcmp, 1) := by decide +kernel
theorem dL_rests_244 : decode cL_rests 244 = .ok (.ifCond .ne 18, 3) := by decide +kernel
theorem dL_rests_247 : decode cL_rests 247 = .ok (.aload_n 0, 1) := by decide +kernel
theorem dL_rests_248 : decode cL_rests 248 = .ok (.getfield 10, 3) := by decide +kernel
theorem dL_rests_251 : decode cL_rests 251 = .ok (.iconst 0, 1) := by decide +kernel
theorem dL_rests_252 : decode cL_rests 252 = .ok (.invokevirtual 193, 3) := by decide +kernel
theorem dL_rests_255 : decode cL_rests 255 = .ok (.ifCond .eq 7, 3) := by decide +kernel
theorem dL_rests_258 : decode cL_rests 258 = .ok (.iconst 1, 1) := by decide +kernel
theorem dL_rests_259 : decode cL_rests 259 = .ok (.goto 4, 3) := by decide +kernel
theorem dL_rests_262 : decode cL_rests 262 = .ok (.iconst 0, 1) := by decide +kernel
theorem dL_rests_263 : decode cL_rests 263 = .ok (.ireturn, 1) := by decide +kernel
theorem dL_cools_0 : decode cL_cools 0 = .ok (.aload_n 0, 1) := by decide +kernel
theorem dL_cools_1 : decode cL_cools 1 = .ok (.getfield 10, 3) := by decide +kernel
theorem dL_cools_4 : decode cL_cools 4 = .ok (.iconst 0, 1) := by decide +kernel
theorem dL_cools_5 : decode cL_cools 5 = .ok (.invokevirtual 186, 3) := by decide +kernel
theorem dL_cools_8 : decode cL_cools 8 = .ok (.ifCond .eq 48, 3) := by decide +kernel
theorem dL_cools_11 : decode cL_cools 11 = .ok (.aload_n 0, 1) := by decide +kernel
theorem dL_cools_12 : decode cL_cools 12 = .ok (.getfield 10, 3) := by decide +kernel
theorem dL_cools_15 : decode cL_cools 15 = .ok (.sipush 1000, 3) := by decide +kernel
theorem dL_cools_18 : decode cL_cools 18 = .ok (.iconst 0, 1) := by decide +kernel
theorem dL_cools_19 : decode cL_cools 19 = .ok (.iconst 0, 1) := by decide +kernel
theorem dL_cools_20 : decode cL_cools 20 = .ok (.sipush 3000, 3) := by decide +kernel
theorem dL_cools_23 : decode cL_cools 23 = .ok (.bipush 50, 2) := by decide +kernel
theorem dL_cools_25 : decode cL_cools 25 = .ok (.sipush 300, 3) := by decide +kernel
theorem dL_cools_28 : decode cL_cools 28 = .ok (.invokevirtual 89, 3) := by decide +kernel
theorem dL_cools_31 : decode cL_cools 31 = .ok (.ifCond .ne 25, 3) := by decide +kernel
theorem dL_cools_34 : decode cL_cools 34 = .ok (.aload_n 0, 1) := by decide +kernel
theorem dL_cools_35 : decode cL_cools 35 = .ok (.getfield 10, 3) := by decide +kernel
theorem dL_cools_38 : decode cL_cools 38 = .ok (.iconst 0, 1) := by decide +kernel
theorem dL_cools_39 : decode cL_cools 39 = .ok (.invokevirtual 186, 3) := by decide +kernel
theorem dL_cools_42 : decode cL_cools 42 = .ok (.ifCond .eq 14, 3) := by decide +kernel
theorem dL_cools_45 : decode cL_cools 45 = .ok (.aload_n 0, 1) := by decide +kernel
theorem dL_cools_46 : decode cL_cools 46 = .ok (.getfield 10, 3) := by decide +kernel
theorem dL_cools_49 : decode cL_cools 49 = .ok (.iconst 1, 1) := by decide +kernel
theorem dL_cools_50 : decode cL_cools 50 = .ok (.invokevirtual 153, 3) := by decide +kernel
theorem dL_cools_53 : decode cL_cools 53 = .ok (.ifCond .ge 5, 3) := by decide +kernel
theorem dL_cools_56 : decode cL_cools 56 = .ok (.iconst 0, 1) := by decide +kernel
theorem dL_cools_57 : decode cL_cools 57 = .ok (.ireturn, 1) := by decide +kernel
theorem dL_cools_58 : decode cL_cools 58 = .ok (.aload_n 0, 1) := by decide +kernel
theorem dL_cools_59 : decode cL_cools 59 = .ok (.getfield 10, 3) := by decide +kernel
theorem dL_cools_62 : decode cL_cools 62 = .ok (.invokevirtual 101, 3) := by decide +kernel
theorem dL_cools_65 : decode cL_cools 65 = .ok (.istore_n 1, 1) := by decide +kernel
theorem dL_cools_66 : decode cL_cools 66 = .ok (.iload_n 1, 1) := by decide +kernel
theorem dL_cools_67 : decode cL_cools 67 = .ok (.newarray .int, 2) := by decide +kernel
theorem dL_cools_69 : decode cL_cools 69 = .ok (.astore_n 2, 1) := by decide +kernel
theorem dL_cools_70 : decode cL_cools 70 = .ok (.iconst 0, 1) := by decide +kernel
theorem dL_cools_71 : decode cL_cools 71 = .ok (.istore_n 3, 1) := by decide +kernel
theorem dL_cools_72 : decode cL_cools 72 = .ok (.iload_n 3, 1) := by decide +kernel
theorem dL_cools_73 : decode cL_cools 73 = .ok (.iload_n 1, 1) := by decide +kernel
theorem dL_cools_74 : decode cL_cools 74 = .ok (.if_icmp .ge 20, 3) := by decide +kernel
theorem dL_cools_77 : decode cL_cools 77 = .ok (.aload_n 2, 1) := by decide +kernel
theorem dL_cools_78 : decode cL_cools 78 = .ok (.iload_n 3, 1) := by decide +kernel
theorem dL_cools_79 : decode cL_cools 79 = .ok (.aload_n 0, 1) := by decide +kernel
theorem dL_cools_80 : decode cL_cools 80 = .ok (.getfield 10, 3) := by decide +kernel
theorem dL_cools_83 : decode cL_cools 83 = .ok (.iload_n 3, 1) := by decide +kernel
theorem dL_cools_84 : decode cL_cools 84 = .ok (.invokevirtual 168, 3) := by decide +kernel
theorem dL_cools_87 : decode cL_cools 87 = .ok (.iastore, 1) := by decide +kernel
theorem dL_cools_88 : decode cL_cools 88 = .ok (.iinc 3 1, 3) := by decide +kernel
theorem dL_cools_91 : decode cL_cools 91 = .ok (.goto (-19), 3) := by decide +kernel
theorem dL_cools_94 : decode cL_cools 94 = .ok (.aload_n 0, 1) := by decide +kernel
theorem dL_cools_95 : decode cL_cools 95 = .ok (.getfield 10, 3) := by decide +kernel
theorem dL_cools_98 : decode cL_cools 98 = .ok (.iconst 0, 1) := by decide +kernel
theorem dL_cools_99 : decode cL_cools 99 = .ok (.invokevirtual 193, 3) := by decide +kernel
theorem dL_cools_102 : decode cL_cools 102 = .ok (.ifCond .eq 49, 3) := by decide +kernel
theorem dL_cools_105 : decode cL_cools 105 = .ok (.aload_n 0, 1) := by decide +kernel
theorem dL_cools_106 : decode cL_cools 106 = .ok (.getfield 10, 3) := by decide +kernel
theorem dL_cools_109 : decode cL_cools 109 = .ok (.sipush 1000, 3) := by decide +kernel
theorem dL_cools_112 : decode cL_cools 112 = .ok (.iconst 0, 1) := by decide +kernel
theorem dL_cools_113 : decode cL_cools 113 = .ok (.iconst 0, 1) := by decide +kernel
theorem dL_cools_114 : decode cL_cools 114 = .ok (.aload_n 0, 1) := by decide +kernel
theorem dL_cools_115 : decode cL_cools 115 = .ok (.sipush 3000, 3) := by decide +kernel
theorem dL_cools_118 : decode cL_cools 118 = .ok (.invokevirtual 65, 3) := by decide +kernel
theorem dL_cools_121 : decode cL_cools 121 = .ok (.aload_n 0, 1) := by decide +kernel
theorem dL_cools_122 : decode cL_cools 122 = .ok (.bipush 50, 2) := by decide +kernel
theorem dL_cools_124 : decode cL_cools 124 = .ok (.invokevirtual 65, 3) := by decide +kernel
theorem dL_cools_127 : decode cL_cools 127 = .ok (.aload_n 0, 1) := by decide +kernel
theorem dL_cools_128 : decode cL_cools 128 = .ok (.sipush 300, 3) := by decide +kernel
theorem dL_cools_131 : decode cL_cools 131 = .ok (.invokevirtual 65, 3) := by decide +kernel
theorem dL_cools_134 : decode cL_cools 134 = .ok (.invokevirtual 89, 3) := by decide +kernel
theorem dL_cools_137 : decode cL_cools 137 = .ok (.ifCond .ne 14, 3) := by decide +kernel
theorem dL_cools_140 : decode cL_cools 140 = .ok (.aload_n 0, 1) := by decide +kernel
theorem dL_cools_141 : decode cL_cools 141 = .ok (.getfield 10, 3) := by decide +kernel
theorem dL_cools_144 : decode cL_cools 144 = .ok (.iconst 1, 1) := by decide +kernel
theorem dL_cools_145 : decode cL_cools 145 = .ok (.invokevirtual 153, 3) := by decide +kernel
theorem dL_cools_148 : decode cL_cools 148 = .ok (.ifCond .ge 5, 3) := by decide +kernel
theorem dL_cools_151 : decode cL_cools 151 = .ok (.iconst 0, 1) := by decide +kernel
theorem dL_cools_152 : decode cL_cools 152 = .ok (.ireturn, 1) := by decide +kernel
theorem dL_cools_153 : decode cL_cools 153 = .ok (.iconst 0, 1) := by decide +kernel
theorem dL_cools_154 : decode cL_cools 154 = .ok (.istore_n 3, 1) := by decide +kernel
theorem dL_cools_155 : decode cL_cools 155 = .ok (.iload_n 3, 1) := by decide +kernel
theorem dL_cools_156 : decode cL_cools 156 = .ok (.iload_n 1, 1) := by decide +kernel
theorem dL_cools_157 : decode cL_cools 157 = .ok (.if_icmp .ge 25, 3) := by decide +kernel
theorem dL_cools_160 : decode cL_cools 160 = .ok (.aload_n 0, 1) := by decide +kernel
theorem dL_cools_161 : decode cL_cools 161 = .ok (.getfield 10, 3) := by decide +kernel
theorem dL_cools_164 : decode cL_cools 164 = .ok (.iload_n 3, 1) := by decide +kernel
theorem dL_cools_165 : decode cL_cools 165 = .ok (.invokevirtual 168, 3) := by decide +kernel
theorem dL_cools_168 : decode cL_cools 168 = .ok (.aload_n 2, 1) := by decide +kernel
theorem dL_cools_169 : decode cL_cools 169 = .ok (.iload_n 3, 1) := by decide +kernel
theorem dL_cools_170 : decode cL_cools 170 = .ok (.iaload, 1) := by decide +kernel
theorem dL_cools_171 : decode cL_cools 171 = .ok (.if_icmp .le 5, 3) := by decide +kernel
theorem dL_cools_174 : decode cL_cools 174 = .ok (.iconst 0, 1) := by decide +kernel
theorem dL_cools_175 : decode cL_cools 175 = .ok (.ireturn, 1) := by decide +kernel
theorem dL_cools_176 : decode cL_cools 176 = .ok (.iinc 3 1, 3) := by decide +kernel
theorem dL_cools_179 : decode cL_cools 179 = .ok (.goto (-24), 3) := by decide +kernel
theorem dL_cools_182 : decode cL_cools 182 = .ok (.aload_n 0, 1) := by decide +kernel
theorem dL_cools_183 : decode cL_cools 183 = .ok (.getfield 10, 3) := by decide +kernel
theorem dL_cools_186 : decode cL_cools 186 = .ok (.iconst 0, 1) := by decide +kernel
theorem dL_cools_187 : decode cL_cools 187 = .ok (.invokevirtual 193, 3) := by decide +kernel
theorem dL_cools_190 : decode cL_cools 190 = .ok (.ireturn, 1) := by decide +kernel
theorem dL_changes_0 : decode cL_changes 0 = .ok (.aload_n 0, 1) := by decide +kernel
theorem dL_changes_1 : decode cL_changes 1 = .ok (.getfield 10, 3) := by decide +kernel
theorem dL_changes_4 : decode cL_changes 4 = .ok (.invokevirtual 126, 3) := by decide +kernel
theorem dL_changes_7 : decode cL_changes 7 = .ok (.istore_n 1, 1) := by decide +kernel
theorem dL_changes_8 : decode cL_changes 8 = .ok (.aload_n 0, 1) := by decide +kernel
theorem dL_changes_9 : decode cL_changes 9 = .ok (.getfield 10, 3) := by decide +kernel
theorem dL_changes_12 : decode cL_changes 12 = .ok (.invokevirtual 101, 3) := by decide +kernel
theorem dL_changes_15 : decode cL_changes 15 = .ok (.istore_n 2, 1) := by decide +kernel
theorem dL_changes_16 : decode cL_changes 16 = .ok (.aload_n 0, 1) := by decide +kernel
theorem dL_changes_17 : decode cL_changes 17 = .ok (.iload_n 2, 1) := by decide +kernel
theorem dL_changes_18 : decode cL_changes 18 = .ok (.invokevirtual 65, 3) := by decide +kernel
theorem dL_changes_21 : decode cL_changes 21 = .ok (.istore_n 3, 1) := by decide +kernel
theorem dL_changes_22 : decode cL_changes 22 = .ok (.iload_n 1, 1) := by decide +kernel
theorem dL_changes_23 : decode cL_changes 23 = .ok (.ifCond .le 25, 3) := by decide +kernel
theorem dL_changes_26 : decode cL_changes 26 = .ok (.aload_n 0, 1) := by decide +kernel
theorem dL_changes_27 : decode cL_changes 27 = .ok (.getfield 10, 3) := by decide +kernel
theorem dL_changes_30 : decode cL_changes 30 = .ok (.aload_n 0, 1) := by decide +kernel
theorem dL_changes_31 : decode cL_changes 31 = .ok (.iload_n 1, 1) := by decide +kernel
theorem dL_changes_32 : decode cL_changes 32 = .ok (.invokevirtual 65, 3) := by decide +kernel
theorem dL_changes_35 : decode cL_changes 35 = .ok (.aload_n 0, 1) := by decide +kernel
theorem dL_changes_36 : decode cL_changes 36 = .ok (.iconst 3, 1) := by decide +kernel
theorem dL_changes_37 : decode cL_changes 37 = .ok (.invokevirtual 65, 3) := by decide +kernel
theorem dL_changes_40 : decode cL_changes 40 = .ok (.invokevirtual 196, 3) := by decide +kernel
theorem dL_changes_43 : decode cL_changes 43 = .ok (.ifCond .ge 5, 3) := by decide +kernel
theorem dL_changes_46 : decode cL_changes 46 = .ok (.iconst 0, 1) := by decide +kernel
theorem dL_changes_47 : decode cL_changes 47 = .ok (.ireturn, 1) := by decide +kernel
theorem dL_changes_48 : decode cL_changes 48 = .ok (.aload_n 0, 1) := by decide +kernel
theorem dL_changes_49 : decode cL_changes 49 = .ok (.getfield 10, 3) := by decide +kernel
theorem dL_changes_52 : decode cL_changes 52 = .ok (.invokevirtual 123, 3) := by decide +kernel
theorem dL_changes_55 : decode cL_changes 55 = .ok (.ifCond .le 67, 3) := by decide +kernel
theorem dL_changes_58 : decode cL_changes 58 = .ok (.aload_n 0, 1) := by decide +kernel
theorem dL_changes_59 : decode cL_changes 59 = .ok (.new 199, 3) := by decide +kernel
theorem dL_changes_62 : decode cL_changes 62 = .ok (.dup, 1) := by decide +kernel
theorem dL_changes_63 : decode cL_changes 63 = .ok (.invokespecial 201, 3) := by decide +kernel
theorem dL_changes_66 : decode cL_changes 66 = .ok (.ldc 202, 2) := by decide +kernel
theorem dL_changes_68 : decode cL_changes 68 = .ok (.invokevirtual 204, 3) := by decide +kernel
theorem dL_changes_71 : decode cL_changes 71 = .ok (.aload_n 0, 1) := by decide +kernel
theorem dL_changes_72 : decode cL_changes 72 = .ok (.aload_n 0, 1) := by decide +kernel
theorem dL_changes_73 : decode cL_changes 73 = .ok (.getfield 10, 3) := by decide +kernel
theorem dL_changes_76 : decode cL_changes 76 = .ok (.invokevirtual 123, 3) := by decide +kernel
theorem dL_changes_79 : decode cL_changes 79 = .ok (.invokevirtual 65, 3) := by decide +kernel
theorem dL_changes_82 : decode cL_changes 82 = .ok (.invokevirtual 208, 3) := by decide +kernel
theorem dL_changes_85 : decode cL_changes 85 = .ok (.aload_n 0, 1) := by decide +kernel
theorem dL_changes_86 : decode cL_changes 86 = .ok (.iconst 2, 1) := by decide +kernel
theorem dL_changes_87 : decode cL_changes 87 = .ok (.invokevirtual 65, 3) := by decide +kernel
theorem dL_changes_90 : decode cL_changes 90 = .ok (.ifCond .ne 8, 3) := by decide +kernel
theorem dL_changes_93 : decode cL_changes 93 = .ok (.ldc 211, 2) := by decide +kernel
theorem dL_changes_95 : decode cL_changes 95 = .ok (.goto 5, 3) := by decide +kernel
theorem dL_changes_98 : decode cL_changes 98 = .ok (.ldc 213, 2) := by decide +kernel
theorem dL_changes_100 : decode cL_changes 100 = .ok (.invokevirtual 204, 3) := by decide +kernel
theorem dL_changes_103 : decode cL_changes 103 = .ok (.invokevirtual 215, 3) := by decide +kernel
theorem dL_changes_106 : decode cL_changes 106 = .ok (.invokevirtual 219, 3) := by decide +kernel
theorem dL_changes_109 : decode cL_changes 109 = .ok (.aload_n 0, 1) := by decide +kernel
theorem dL_changes_110 : decode cL_changes 110 = .ok (.getfield 10, 3) := by decide +kernel
theorem dL_changes_113 : decode cL_changes 113 = .ok (.invokevirtual 223, 3) := by decide +kernel
theorem dL_changes_116 : decode cL_changes 116 = .ok (.iconst 1, 1) := by decide +kernel
theorem dL_changes_117 : decode cL_changes 117 = .ok (.if_icmp .eq 5, 3) := by decide +kernel
theorem dL_changes_120 : decode cL_changes 120 = .ok (.iconst 0, 1) := by decide +kernel
theorem dL_changes_121 : decode cL_changes 121 = .ok (.ireturn, 1) := by decide +kernel
theorem dL_changes_122 : decode cL_changes 122 = .ok (.aload_n 0, 1) := by decide +kernel
theorem dL_changes_123 : decode cL_changes 123 = .ok (.getfield 10, 3) := by decide +kernel
theorem dL_changes_126 : decode cL_changes 126 = .ok (.iload_n 3, 1) := by decide +kernel
theorem dL_changes_127 : decode cL_changes 127 = .ok (.invokevirtual 168, 3) := by decide +kernel
theorem dL_changes_130 : decode cL_changes 130 = .ok (.istore 4, 2) := by decide +kernel
theorem dL_changes_132 : decode cL_changes 132 = .ok (.ldc 174, 2) := by decide +kernel
theorem dL_changes_134 : decode cL_changes 134 = .ok (.iload 4, 2) := by decide +kernel
theorem dL_changes_136 : decode cL_changes 136 = .ok (.aload_n 0, 1) := by decide +kernel
theorem dL_changes_137 : decode cL_changes 137 = .ok (.sipush 20000, 3) := by decide +kernel
theorem dL_changes_140 : decode cL_changes 140 = .ok (.invokevirtual 65, 3) := by decide +kernel
theorem dL_changes_143 : decode cL_changes 143 = .ok (.isub, 1) := by decide +kernel
theorem dL_changes_144 : decode cL_changes 144 = .ok (.invokestatic 35, 3) := by decide +kernel
theorem dL_changes_147 : decode cL_changes 147 = .ok (.istore 5, 2) := by decide +kernel
theorem dL_changes_149 : decode cL_changes 149 = .ok (.ldc 175, 2) := by decide +kernel
theorem dL_changes_151 : decode cL_changes 151 = .ok (.iload 4, 2) := by decide +kernel
theorem dL_changes_153 : decode cL_changes 153 = .ok (.aload_n 0, 1) := by decide +kernel
theorem dL_changes_154 : decode cL_changes 154 = .ok (.sipush 20000, 3) := by decide +kernel
theorem dL_changes_157 : decode cL_changes 157 = .ok (.invokevirtual 65, 3) := by decide +kernel
theorem dL_changes_160 : decode cL_changes 160 = .ok (.iadd, 1) := by decide +kernel
theorem dL_changes_161 : decode cL_changes 161 = .ok (.invokestatic 159, 3) := by decide +kernel
theorem dL_changes_164 : decode cL_changes 164 = .ok (.istore 6, 2) := by decide +kernel
theorem dL_changes_166 : decode cL_changes 166 = .ok (.aload_n 0, 1) := by decide +kernel
theorem dL_changes_167 : decode cL_changes 167 = .ok (.getfield 10, 3) := by decide +kernel
theorem dL_changes_170 : decode cL_changes 170 = .ok (.iload_n 3, 1) := by decide +kernel
theorem dL_changes_171 : decode cL_changes 171 = .ok (.iload 5, 2) := by decide +kernel
theorem dL_changes_173 : decode cL_changes 173 = .ok (.iload 6, 2) := by decide +kernel
theorem dL_changes_175 : decode cL_changes 175 = .ok (.invokevirtual 226, 3) := by decide +kernel
theorem dL_changes_178 : decode cL_changes 178 = .ok (.ifCond .ne 42, 3) := by decide +kernel
theorem dL_changes_181 : decode cL_changes 181 = .ok (.aload_n 0, 1) := by decide +kernel
theorem dL_changes_182 : decode cL_changes 182 = .ok (.getfield 10, 3) := by decide +kernel
theorem dL_changes_185 : decode cL_changes 185 = .ok (.iload_n 3, 1) := by decide +kernel
theorem dL_changes_186 : decode cL_changes 186 = .ok (.invokevirtual 171, 3) := by decide +kernel
theorem dL_changes_189 : decode cL_changes 189 = .ok (.iload 4, 2) := by decide +kernel
theorem dL_changes_191 : decode cL_changes 191 = .ok (.iload 5, 2) := by decide +kernel
theorem dL_changes_193 : decode cL_changes 193 = .ok (.isub, 1) := by decide +kernel
theorem dL_changes_194 : decode cL_changes 194 = .ok (.iload 6, 2) := by decide +kernel
theorem dL_changes_196 : decode cL_changes 196 = .ok (.iload 4, 2) := by decide +kernel
theorem dL_changes_198 : decode cL_changes 198 = .ok (.isub, 1) := by decide +kernel
theorem dL_changes_199 : decode cL_changes 199 = .ok (.invokestatic 159, 3) := by decide +kernel
theorem dL_changes_202 : decode cL_changes 202 = .ok (.if_icmp .ne 18, 3) := by decide +kernel
theorem dL_changes_205 : decode cL_changes 205 = .ok (.aload_n 0, 1) := by decide +kernel
theorem dL_changes_206 : decode cL_changes 206 = .ok (.getfield 10, 3) := by decide +kernel
theorem dL_changes_209 : decode cL_changes 209 = .ok (.iload_n 3, 1) := by decide +kernel
theorem dL_changes_210 : decode cL_changes 210 = .ok (.invokevirtual 171, 3) := by decide +kernel
theorem dL_changes_213 : decode cL_changes 213 = .ok (.ifCond .lt 7, 3) := by decide +kernel
theorem dL_changes_216 : decode cL_changes 216 = .ok (.iconst 1, 1) := by decide +kernel
theorem dL_changes_217 : decode cL_changes 217 = .ok (.goto 4, 3) := by decide +kernel
theorem dL_changes_220 : decode cL_changes 220 = .ok (.iconst 0, 1) := by decide +kernel
theorem dL_changes_221 : decode cL_changes 221 = .ok (.ireturn, 1) := by decide +kernel
theorem dL_law_0 : decode cL_law 0 = .ok (.new 11, 3) := by decide +kernel
theorem dL_law_3 : decode cL_law 3 = .ok (.dup, 1) := by decide +kernel
theorem dL_law_4 : decode cL_law 4 = .ok (.invokespecial 229, 3) := by decide +kernel
theorem dL_law_7 : decode cL_law 7 = .ok (.aload_n 0, 1) := by decide +kernel
theorem dL_law_8 : decode cL_law 8 = .ok (.invokevirtual 230, 3) := by decide +kernel
theorem dL_law_11 : decode cL_law 11 = .ok (.ireturn, 1) := by decide +kernel
theorem dL_flies_0 : decode cL_flies 0 = .ok (.aload_n 0, 1) := by decide +kernel
theorem dL_flies_1 : decode cL_flies 1 = .ok (.aload_n 1, 1) := by decide +kernel
theorem dL_flies_2 : decode cL_flies 2 = .ok (.putfield 28, 3) := by decide +kernel
theorem dL_flies_5 : decode cL_flies 5 = .ok (.aload_n 0, 1) := by decide +kernel
theorem dL_flies_6 : decode cL_flies 6 = .ok (.invokevirtual 234, 3) := by decide +kernel
theorem dL_flies_9 : decode cL_flies 9 = .ok (.ifCond .ne 5, 3) := by decide +kernel
theorem dL_flies_12 : decode cL_flies 12 = .ok (.iconst 0, 1) := by decide +kernel
theorem dL_flies_13 : decode cL_flies 13 = .ok (.ireturn, 1) := by decide +kernel
theorem dL_flies_14 : decode cL_flies 14 = .ok (.iconst 0, 1) := by decide +kernel
theorem dL_flies_15 : decode cL_flies 15 = .ok (.istore_n 2, 1) := by decide +kernel
theorem dL_flies_16 : decode cL_flies 16 = .ok (.iload_n 2, 1) := by decide +kernel
theorem dL_flies_17 : decode cL_flies 17 = .ok (.bipush 10, 2) := by decide +kernel
theorem dL_flies_19 : decode cL_flies 19 = .ok (.if_icmp .ge 265, 3) := by decide +kernel
theorem dL_flies_22 : decode cL_flies 22 = .ok (.aload_n 0, 1) := by decide +kernel
theorem dL_flies_23 : decode cL_flies 23 = .ok (.invokevirtual 238, 3) := by decide +kernel
theorem dL_flies_26 : decode cL_flies 26 = .ok (.ifCond .ne 5, 3) := by decide +kernel
theorem dL_flies_29 : decode cL_flies 29 = .ok (.iconst 0, 1) := by decide +kernel
theorem dL_flies_30 : decode cL_flies 30 = .ok (.ireturn, 1) := by decide +kernel
theorem dL_flies_31 : decode cL_flies 31 = .ok (.aload_n 0, 1) := by decide +kernel
theorem dL_flies_32 : decode cL_flies 32 = .ok (.ldc 241, 2) := by decide +kernel
theorem dL_flies_34 : decode cL_flies 34 = .ok (.invokevirtual 219, 3) := by decide +kernel
theorem dL_flies_37 : decode cL_flies 37 = .ok (.aload_n 0, 1) := by decide +kernel
theorem dL_flies_38 : decode cL_flies 38 = .ok (.getfield 10, 3) := by decide +kernel
theorem dL_flies_41 : decode cL_flies 41 = .ok (.invokevirtual 223, 3) := by decide +kernel
theorem dL_flies_44 : decode cL_flies 44 = .ok (.ifCond .eq 5, 3) := by decide +kernel
theorem dL_flies_47 : decode cL_flies 47 = .ok (.iconst 0, 1) := by decide +kernel
theorem dL_flies_48 : decode cL_flies 48 = .ok (.ireturn, 1) := by decide +kernel
theorem dL_flies_49 : decode cL_flies 49 = .ok (.aload_n 0, 1) := by decide +kernel
theorem dL_flies_50 : decode cL_flies 50 = .ok (.bipush 12, 2) := by decide +kernel
theorem dL_flies_52 : decode cL_flies 52 = .ok (.invokevirtual 65, 3) := by decide +kernel
theorem dL_flies_55 : decode cL_flies 55 = .ok (.istore_n 3, 1) := by decide +kernel
theorem dL_flies_56 : decode cL_flies 56 = .ok (.iload_n 3, 1) := by decide +kernel
theorem dL_flies_57 : decode cL_flies 57 = .ok (.ifCond .lt 32, 3) := by decide +kernel
theorem dL_flies_60 : decode cL_flies 60 = .ok (.aload_n 0, 1) := by decide +kernel
theorem dL_flies_61 : decode cL_flies 61 = .ok (.invokevirtual 243, 3) := by decide +kernel
theorem dL_flies_64 : decode cL_flies 64 = .ok (.ifCond .eq 17, 3) := by decide +kernel
theorem dL_flies_67 : decode cL_flies 67 = .ok (.aload_n 0, 1) := by decide +kernel
theorem dL_flies_68 : decode cL_flies 68 = .ok (.invokevirtual 246, 3) := by decide +kernel
theorem dL_flies_71 : decode cL_flies 71 = .ok (.ifCond .eq 10, 3) := by decide +kernel
theorem dL_flies_74 : decode cL_flies 74 = .ok (.aload_n 0, 1) := by decide +kernel
theorem dL_flies_75 : decode cL_flies 75 = .ok (.invokevirtual 238, 3) := by decide +kernel
theorem dL_flies_78 : decode cL_flies 78 = .ok (.ifCond .ne 5, 3) := by decide +kernel
theorem dL_flies_81 : decode cL_flies 81 = .ok (.iconst 0, 1) := by decide +kernel
theorem dL_flies_82 : decode cL_flies 82 = .ok (.ireturn, 1) := by decide +kernel
theorem dL_flies_83 : decode cL_flies 83 = .ok (.iinc 3 (-1), 3) := by decide +kernel
theorem dL_flies_86 : decode cL_flies 86 = .ok (.goto (-30), 3) := by decide +kernel
theorem dL_flies_89 : decode cL_flies 89 = .ok (.aload_n 0, 1) := by decide +kernel
theorem dL_flies_90 : decode cL_flies 90 = .ok (.invokevirtual 249, 3) := by decide +kernel
theorem dL_flies_93 : decode cL_flies 93 = .ok (.ifCond .eq 41, 3) := by decide +kernel
theorem dL_flies_96 : decode cL_flies 96 = .ok (.aload_n 0, 1) := by decide +kernel
theorem dL_flies_97 : decode cL_flies 97 = .ok (.getfield 10, 3) := by decide +kernel
theorem dL_flies_100 : decode cL_flies 100 = .ok (.iconst 1, 1) := by decide +kernel
theorem dL_flies_101 : decode cL_flies 101 = .ok (.aload_n 0, 1) := by decide +kernel
theorem dL_flies_102 : decode cL_flies 102 = .ok (.iconst 5, 1) := by decide +kernel
theorem dL_flies_103 : decode cL_flies 103 = .ok (.invokevirtual 65, 3) := by decide +kernel
theorem dL_flies_106 : decode cL_flies 106 = .ok (.iadd, 1) := by decide +kernel
theorem dL_flies_107 : decode cL_flies 107 = .ok (.invokevirtual 153, 3) := by decide +kernel
theorem dL_flies_110 : decode cL_flies 110 = .ok (.ifCond .lt 24, 3) := by decide +kernel
theorem dL_flies_113 : decode cL_flies 113 = .ok (.aload_n 0, 1) := by decide +kernel
theorem dL_flies_114 : decode cL_flies 114 = .ok (.invokevirtual 252, 3) := by decide +kernel
theorem dL_flies_117 : decode cL_flies 117 = .ok (.ifCond .eq 17, 3) := by decide +kernel
theorem dL_flies_120 : decode cL_flies 120 = .ok (.aload_n 0, 1) := by decide +kernel
theorem dL_flies_121 : decode cL_flies 121 = .ok (.invokevirtual 255, 3) := by decide +kernel
theorem dL_flies_124 : decode cL_flies 124 = .ok (.ifCond .eq 10, 3) := by decide +kernel
theorem dL_flies_127 : decode cL_flies 127 = .ok (.aload_n 0, 1) := by decide +kernel
theorem dL_flies_128 : decode cL_flies 128 = .ok (.invokevirtual 258, 3) := by decide +kernel
theorem dL_flies_131 : decode cL_flies 131 = .ok (.ifCond .ne 5, 3) := by decide +kernel
theorem dL_flies_134 : decode cL_flies 134 = .ok (.iconst 0, 1) := by decide +kernel
theorem dL_flies_135 : decode cL_flies 135 = .ok (.ireturn, 1) := by decide +kernel
theorem dL_flies_136 : decode cL_flies 136 = .ok (.aload_n 0, 1) := by decide +kernel
theorem dL_flies_137 : decode cL_flies 137 = .ok (.iconst 4, 1) := by decide +kernel
theorem dL_flies_138 : decode cL_flies 138 = .ok (.invokevirtual 65, 3) := by decide +kernel
theorem dL_flies_141 : decode cL_flies 141 = .ok (.ifCond .le 6, 3) := by decide +kernel
theorem dL_flies_144 : decode cL_flies 144 = .ok (.goto 134, 3) := by decide +kernel
theorem dL_flies_147 : decode cL_flies 147 = .ok (.aload_n 0, 1) := by decide +kernel
theorem dL_flies_148 : decode cL_flies 148 = .ok (.getfield 10, 3) := by decide +kernel
theorem dL_flies_151 : decode cL_flies 151 = .ok (.invokevirtual 135, 3) := by decide +kernel
theorem dL_flies_154 : decode cL_flies 154 = .ok (.istore_n 3, 1) := by decide +kernel
theorem dL_flies_155 : decode cL_flies 155 = .ok (.aload_n 0, 1) := by decide +kernel
theorem dL_flies_156 : decode cL_flies 156 = .ok (.getfield 10, 3) := by decide +kernel
theorem dL_flies_159 : decode cL_flies 159 = .ok (.invokevirtual 261, 3) := by decide +kernel
theorem dL_flies_162 : decode cL_flies 162 = .ok (.iload_n 3, 1) := by decide +kernel
theorem dL_flies_163 : decode cL_flies 163 = .ok (.if_icmp .ne 36, 3) := by decide +kernel
theorem dL_flies_166 : decode cL_flies 166 = .ok (.aload_n 0, 1) := by decide +kernel
theorem dL_flies_167 : decode cL_flies 167 = .ok (.getfield 10, 3) := by decide +kernel
theorem dL_flies_170 : decode cL_flies 170 = .ok (.invokevirtual 135, 3) := by decide +kernel
theorem dL_flies_173 : decode cL_flies 173 = .ok (.ifCond .ne 26, 3) := by decide +kernel
theorem dL_flies_176 : decode cL_flies 176 = .ok (.aload_n 0, 1) := by decide +kernel
theorem dL_flies_177 : decode cL_flies 177 = .ok (.getfield 10, 3) := by decide +kernel
theorem dL_flies_180 : decode cL_flies 180 = .ok (.invokevirtual 132, 3) := by decide +kernel
theorem dL_flies_183 : decode cL_flies 183 = .ok (.ifCond .ne 16, 3) := by decide +kernel
theorem dL_flies_186 : decode cL_flies 186 = .ok (.aload_n 0, 1) := by decide +kernel
theorem dL_flies_187 : decode cL_flies 187 = .ok (.getfield 10, 3) := by decide +kernel
theorem dL_flies_190 : decode cL_flies 190 = .ok (.iconst 0, 1) := by decide +kernel
theorem dL_flies_191 : decode cL_flies 191 = .ok (.invokevirtual 138, 3) := by decide +kernel
theorem dL_flies_194 : decode cL_flies 194 = .ok (.lconst 0, 1) := by decide +kernel
theorem dL_flies_195 : decode cL_flies 195 = .ok (.lcmp, 1) := by decide +kernel
theorem dL_flies_196 : decode cL_flies 196 = .ok (.ifCond .eq 5, 3) := by decide +kernel
theorem dL_flies_199 : decode cL_flies 199 = .ok (.iconst 0, 1) := by decide +kernel
theorem dL_flies_200 : decode cL_flies 200 = .ok (.ireturn, 1) := by decide +kernel
theorem dL_flies_201 : decode cL_flies 201 = .ok (.iconst 0, 1) := by decide +kernel
theorem dL_flies_202 : decode cL_flies 202 = .ok (.istore 4, 2) := by decide +kernel
theorem dL_flies_204 : decode cL_flies 204 = .ok (.iload 4, 2) := by decide +kernel
theorem dL_flies_206 : decode cL_flies 206 = .ok (.aload_n 0, 1) := by decide +kernel
theorem dL_flies_207 : decode cL_flies 207 = .ok (.getfield 10, 3) := by decide +kernel
theorem dL_flies_210 : decode cL_flies 210 = .ok (.invokevirtual 101, 3) := by decide +kernel
theorem dL_flies_213 : decode cL_flies 213 = .ok (.if_icmp .ge 65, 3) := by decide +kernel
theorem dL_flies_216 : decode cL_flies 216 = .ok (.aload_n 0, 1) := by decide +kernel
theorem dL_flies_217 : decode cL_flies 217 = .ok (.getfield 10, 3) := by decide +kernel
theorem dL_flies_220 : decode cL_flies 220 = .ok (.iload 4, 2) := by decide +kernel
theorem dL_flies_222 : decode cL_flies 222 = .ok (.invokevirtual 147, 3) := by decide +kernel
theorem dL_flies_225 : decode cL_flies 225 = .ok (.aload_n 0, 1) := by decide +kernel
theorem dL_flies_226 : decode cL_flies 226 = .ok (.getfield 10, 3) := by decide +kernel
theorem dL_flies_229 : decode cL_flies 229 = .ok (.iload 4, 2) := by decide +kernel
theorem dL_flies_231 : decode cL_flies 231 = .ok (.invokevirtual 168, 3) := by decide +kernel
theorem dL_flies_234 : decode cL_flies 234 = .ok (.if_icmp .ne 36, 3) := by decide +kernel
theorem dL_flies_237 : decode cL_flies 237 = .ok (.aload_n 0, 1) := by decide +kernel
theorem dL_flies_238 : decode cL_flies 238 = .ok (.getfield 10, 3) := by decide +kernel
theorem dL_flies_241 : decode cL_flies 241 = .ok (.iload 4, 2) := by decide +kernel
theorem dL_flies_243 : decode cL_flies 243 = .ok (.invokevirtual 150, 3) := by decide +kernel
theorem dL_flies_246 : decode cL_flies 246 = .ok (.aload_n 0, 1) := by decide +kernel
theorem dL_flies_247 : decode cL_flies 247 = .ok (.getfield 10, 3) := by decide +kernel
theorem dL_flies_250 : decode cL_flies 250 = .ok (.iload 4, 2) := by decide +kernel
theorem dL_flies_252 : decode cL_flies 252 = .ok (.invokevirtual 168, 3) := by decide +kernel
theorem dL_flies_255 : decode cL_flies 255 = .ok (.if_icmp .ne 15, 3) := by decide +kernel
theorem dL_flies_258 : decode cL_flies 258 = .ok (.aload_n 0, 1) := by decide +kernel
theorem dL_flies_259 : decode cL_flies 259 = .ok (.getfield 10, 3) := by decide +kernel
theorem dL_flies_262 : decode cL_flies 262 = .ok (.iload 4, 2) := by decide +kernel
theorem dL_flies_264 : decode cL_flies 264 = .ok (.invokevirtual 176, 3) := by decide +kernel
theorem dL_flies_267 : decode cL_flies 267 = .ok (.ifCond .eq 5, 3) := by decide +kernel
theorem dL_flies_270 : decode cL_flies 270 = .ok (.iconst 0, 1) := by decide +kernel
theorem dL_flies_271 : decode cL_flies 271 = .ok (.ireturn, 1) := by decide +kernel
theorem dL_flies_272 : decode cL_flies 272 = .ok (.iinc 4 1, 3) := by decide +kernel
theorem dL_flies_275 : decode cL_flies 275 = .ok (.goto (-71), 3) := by decide +kernel
theorem dL_flies_278 : decode cL_flies 278 = .ok (.iinc 2 1, 3) := by decide +kernel
theorem dL_flies_281 : decode cL_flies 281 = .ok (.goto (-265), 3) := by decide +kernel
theorem dL_flies_284 : decode cL_flies 284 = .ok (.iconst 1, 1) := by decide +kernel
theorem dL_flies_285 : decode cL_flies 285 = .ok (.ireturn, 1) := by decide +kernel
