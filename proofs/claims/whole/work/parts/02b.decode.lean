theorem dX0_init_0 : decode cX0_init 0 = .ok (.aload_n 0, 1) := by decide +kernel
theorem dX0_init_1 : decode cX0_init 1 = .ok (.invokespecial 1, 3) := by decide +kernel
theorem dX0_init_4 : decode cX0_init 4 = .ok (.aload_n 0, 1) := by decide +kernel
theorem dX0_init_5 : decode cX0_init 5 = .ok (.aload_n 1, 1) := by decide +kernel
theorem dX0_init_6 : decode cX0_init 6 = .ok (.putfield 7, 3) := by decide +kernel
theorem dX0_init_9 : decode cX0_init 9 = .ok (.aload_n 0, 1) := by decide +kernel
theorem dX0_init_10 : decode cX0_init 10 = .ok (.iconst 0, 1) := by decide +kernel
theorem dX0_init_11 : decode cX0_init 11 = .ok (.putfield 13, 3) := by decide +kernel
theorem dX0_init_14 : decode cX0_init 14 = .ok (.aload_n 0, 1) := by decide +kernel
theorem dX0_init_15 : decode cX0_init 15 = .ok (.iconst 0, 1) := by decide +kernel
theorem dX0_init_16 : decode cX0_init 16 = .ok (.putfield 17, 3) := by decide +kernel
theorem dX0_init_19 : decode cX0_init 19 = .ok (.return_, 1) := by decide +kernel
theorem dX0_bits_0 : decode cX0_bits 0 = .ok (.aload_n 0, 1) := by decide +kernel
theorem dX0_bits_1 : decode cX0_bits 1 = .ok (.dup, 1) := by decide +kernel
theorem dX0_bits_2 : decode cX0_bits 2 = .ok (.getfield 13, 3) := by decide +kernel
theorem dX0_bits_5 : decode cX0_bits 5 = .ok (.iload_n 1, 1) := by decide +kernel
theorem dX0_bits_6 : decode cX0_bits 6 = .ok (.iconst 1, 1) := by decide +kernel
theorem dX0_bits_7 : decode cX0_bits 7 = .ok (.iload_n 2, 1) := by decide +kernel
theorem dX0_bits_8 : decode cX0_bits 8 = .ok (.ishl, 1) := by decide +kernel
theorem dX0_bits_9 : decode cX0_bits 9 = .ok (.iconst 1, 1) := by decide +kernel
theorem dX0_bits_10 : decode cX0_bits 10 = .ok (.isub, 1) := by decide +kernel
theorem dX0_bits_11 : decode cX0_bits 11 = .ok (.iand, 1) := by decide +kernel
theorem dX0_bits_12 : decode cX0_bits 12 = .ok (.aload_n 0, 1) := by decide +kernel
theorem dX0_bits_13 : decode cX0_bits 13 = .ok (.getfield 17, 3) := by decide +kernel
theorem dX0_bits_16 : decode cX0_bits 16 = .ok (.ishl, 1) := by decide +kernel
theorem dX0_bits_17 : decode cX0_bits 17 = .ok (.ior, 1) := by decide +kernel
theorem dX0_bits_18 : decode cX0_bits 18 = .ok (.putfield 13, 3) := by decide +kernel
theorem dX0_bits_21 : decode cX0_bits 21 = .ok (.aload_n 0, 1) := by decide +kernel
theorem dX0_bits_22 : decode cX0_bits 22 = .ok (.dup, 1) := by decide +kernel
theorem dX0_bits_23 : decode cX0_bits 23 = .ok (.getfield 17, 3) := by decide +kernel
theorem dX0_bits_26 : decode cX0_bits 26 = .ok (.iload_n 2, 1) := by decide +kernel
theorem dX0_bits_27 : decode cX0_bits 27 = .ok (.iadd, 1) := by decide +kernel
theorem dX0_bits_28 : decode cX0_bits 28 = .ok (.putfield 17, 3) := by decide +kernel
theorem dX0_bits_31 : decode cX0_bits 31 = .ok (.aload_n 0, 1) := by decide +kernel
theorem dX0_bits_32 : decode cX0_bits 32 = .ok (.getfield 17, 3) := by decide +kernel
theorem dX0_bits_35 : decode cX0_bits 35 = .ok (.bipush 8, 2) := by decide +kernel
theorem dX0_bits_37 : decode cX0_bits 37 = .ok (.if_icmp .lt 39, 3) := by decide +kernel
theorem dX0_bits_40 : decode cX0_bits 40 = .ok (.aload_n 0, 1) := by decide +kernel
theorem dX0_bits_41 : decode cX0_bits 41 = .ok (.getfield 7, 3) := by decide +kernel
theorem dX0_bits_44 : decode cX0_bits 44 = .ok (.aload_n 0, 1) := by decide +kernel
theorem dX0_bits_45 : decode cX0_bits 45 = .ok (.getfield 13, 3) := by decide +kernel
theorem dX0_bits_48 : decode cX0_bits 48 = .ok (.invokevirtual 20, 3) := by decide +kernel
theorem dX0_bits_51 : decode cX0_bits 51 = .ok (.aload_n 0, 1) := by decide +kernel
theorem dX0_bits_52 : decode cX0_bits 52 = .ok (.dup, 1) := by decide +kernel
theorem dX0_bits_53 : decode cX0_bits 53 = .ok (.getfield 13, 3) := by decide +kernel
theorem dX0_bits_56 : decode cX0_bits 56 = .ok (.bipush 8, 2) := by decide +kernel
theorem dX0_bits_58 : decode cX0_bits 58 = .ok (.iushr, 1) := by decide +kernel
theorem dX0_bits_59 : decode cX0_bits 59 = .ok (.putfield 13, 3) := by decide +kernel
theorem dX0_bits_62 : decode cX0_bits 62 = .ok (.aload_n 0, 1) := by decide +kernel
theorem dX0_bits_63 : decode cX0_bits 63 = .ok (.dup, 1) := by decide +kernel
theorem dX0_bits_64 : decode cX0_bits 64 = .ok (.getfield 17, 3) := by decide +kernel
theorem dX0_bits_67 : decode cX0_bits 67 = .ok (.bipush 8, 2) := by decide +kernel
theorem dX0_bits_69 : decode cX0_bits 69 = .ok (.isub, 1) := by decide +kernel
theorem dX0_bits_70 : decode cX0_bits 70 = .ok (.putfield 17, 3) := by decide +kernel
theorem dX0_bits_73 : decode cX0_bits 73 = .ok (.goto (-42), 3) := by decide +kernel
theorem dX0_bits_76 : decode cX0_bits 76 = .ok (.return_, 1) := by decide +kernel
theorem dX0_bitsToByte_0 : decode cX0_bitsToByte 0 = .ok (.aload_n 0, 1) := by decide +kernel
theorem dX0_bitsToByte_1 : decode cX0_bitsToByte 1 = .ok (.getfield 17, 3) := by decide +kernel
theorem dX0_bitsToByte_4 : decode cX0_bitsToByte 4 = .ok (.iload_n 1, 1) := by decide +kernel
theorem dX0_bitsToByte_5 : decode cX0_bitsToByte 5 = .ok (.iadd, 1) := by decide +kernel
theorem dX0_bitsToByte_6 : decode cX0_bitsToByte 6 = .ok (.ineg, 1) := by decide +kernel
theorem dX0_bitsToByte_7 : decode cX0_bitsToByte 7 = .ok (.bipush 7, 2) := by decide +kernel
theorem dX0_bitsToByte_9 : decode cX0_bitsToByte 9 = .ok (.iand, 1) := by decide +kernel
theorem dX0_bitsToByte_10 : decode cX0_bitsToByte 10 = .ok (.ireturn, 1) := by decide +kernel
theorem dX0_endByte_0 : decode cX0_endByte 0 = .ok (.aload_n 0, 1) := by decide +kernel
theorem dX0_endByte_1 : decode cX0_endByte 1 = .ok (.iconst 0, 1) := by decide +kernel
theorem dX0_endByte_2 : decode cX0_endByte 2 = .ok (.aload_n 0, 1) := by decide +kernel
theorem dX0_endByte_3 : decode cX0_endByte 3 = .ok (.iconst 0, 1) := by decide +kernel
theorem dX0_endByte_4 : decode cX0_endByte 4 = .ok (.invokevirtual 26, 3) := by decide +kernel
theorem dX0_endByte_7 : decode cX0_endByte 7 = .ok (.invokevirtual 30, 3) := by decide +kernel
theorem dX0_endByte_10 : decode cX0_endByte 10 = .ok (.return_, 1) := by decide +kernel
theorem dX1_init_0 : decode cX1_init 0 = .ok (.aload_n 0, 1) := by decide +kernel
theorem dX1_init_1 : decode cX1_init 1 = .ok (.invokespecial 1, 3) := by decide +kernel
theorem dX1_init_4 : decode cX1_init 4 = .ok (.aload_n 0, 1) := by decide +kernel
theorem dX1_init_5 : decode cX1_init 5 = .ok (.aload_n 1, 1) := by decide +kernel
theorem dX1_init_6 : decode cX1_init 6 = .ok (.putfield 7, 3) := by decide +kernel
theorem dX1_init_9 : decode cX1_init 9 = .ok (.return_, 1) := by decide +kernel
theorem dX1_begin_0 : decode cX1_begin 0 = .ok (.aload_n 0, 1) := by decide +kernel
theorem dX1_begin_1 : decode cX1_begin 1 = .ok (.iload_n 1, 1) := by decide +kernel
theorem dX1_begin_2 : decode cX1_begin 2 = .ok (.putfield 13, 3) := by decide +kernel
theorem dX1_begin_5 : decode cX1_begin 5 = .ok (.aload_n 0, 1) := by decide +kernel
theorem dX1_begin_6 : decode cX1_begin 6 = .ok (.iload_n 2, 1) := by decide +kernel
theorem dX1_begin_7 : decode cX1_begin 7 = .ok (.putfield 17, 3) := by decide +kernel
theorem dX1_begin_10 : decode cX1_begin 10 = .ok (.aload_n 0, 1) := by decide +kernel
theorem dX1_begin_11 : decode cX1_begin 11 = .ok (.iconst 0, 1) := by decide +kernel
theorem dX1_begin_12 : decode cX1_begin 12 = .ok (.putfield 20, 3) := by decide +kernel
theorem dX1_begin_15 : decode cX1_begin 15 = .ok (.aload_n 0, 1) := by decide +kernel
theorem dX1_begin_16 : decode cX1_begin 16 = .ok (.iconst 0, 1) := by decide +kernel
theorem dX1_begin_17 : decode cX1_begin 17 = .ok (.putfield 23, 3) := by decide +kernel
theorem dX1_begin_20 : decode cX1_begin 20 = .ok (.return_, 1) := by decide +kernel
theorem dX1_isMissing_0 : decode cX1_isMissing 0 = .ok (.aload_n 0, 1) := by decide +kernel
theorem dX1_isMissing_1 : decode cX1_isMissing 1 = .ok (.getfield 23, 3) := by decide +kernel
theorem dX1_isMissing_4 : decode cX1_isMissing 4 = .ok (.ireturn, 1) := by decide +kernel
theorem dX1_bit_0 : decode cX1_bit 0 = .ok (.aload_n 0, 1) := by decide +kernel
theorem dX1_bit_1 : decode cX1_bit 1 = .ok (.getfield 13, 3) := by decide +kernel
theorem dX1_bit_4 : decode cX1_bit 4 = .ok (.aload_n 0, 1) := by decide +kernel
theorem dX1_bit_5 : decode cX1_bit 5 = .ok (.getfield 17, 3) := by decide +kernel
theorem dX1_bit_8 : decode cX1_bit 8 = .ok (.if_icmp .lt 10, 3) := by decide +kernel
theorem dX1_bit_11 : decode cX1_bit 11 = .ok (.aload_n 0, 1) := by decide +kernel
theorem dX1_bit_12 : decode cX1_bit 12 = .ok (.iconst 1, 1) := by decide +kernel
theorem dX1_bit_13 : decode cX1_bit 13 = .ok (.putfield 23, 3) := by decide +kernel
theorem dX1_bit_16 : decode cX1_bit 16 = .ok (.iconst 0, 1) := by decide +kernel
theorem dX1_bit_17 : decode cX1_bit 17 = .ok (.ireturn, 1) := by decide +kernel
theorem dX1_bit_18 : decode cX1_bit 18 = .ok (.aload_n 0, 1) := by decide +kernel
theorem dX1_bit_19 : decode cX1_bit 19 = .ok (.getfield 7, 3) := by decide +kernel
theorem dX1_bit_22 : decode cX1_bit 22 = .ok (.aload_n 0, 1) := by decide +kernel
theorem dX1_bit_23 : decode cX1_bit 23 = .ok (.getfield 13, 3) := by decide +kernel
theorem dX1_bit_26 : decode cX1_bit 26 = .ok (.invokevirtual 27, 3) := by decide +kernel
theorem dX1_bit_29 : decode cX1_bit 29 = .ok (.aload_n 0, 1) := by decide +kernel
theorem dX1_bit_30 : decode cX1_bit 30 = .ok (.getfield 20, 3) := by decide +kernel
theorem dX1_bit_33 : decode cX1_bit 33 = .ok (.ishr, 1) := by decide +kernel
theorem dX1_bit_34 : decode cX1_bit 34 = .ok (.iconst 1, 1) := by decide +kernel
theorem dX1_bit_35 : decode cX1_bit 35 = .ok (.iand, 1) := by decide +kernel
theorem dX1_bit_36 : decode cX1_bit 36 = .ok (.istore_n 1, 1) := by decide +kernel
theorem dX1_bit_37 : decode cX1_bit 37 = .ok (.aload_n 0, 1) := by decide +kernel
theorem dX1_bit_38 : decode cX1_bit 38 = .ok (.dup, 1) := by decide +kernel
theorem dX1_bit_39 : decode cX1_bit 39 = .ok (.getfield 20, 3) := by decide +kernel
theorem dX1_bit_42 : decode cX1_bit 42 = .ok (.iconst 1, 1) := by decide +kernel
theorem dX1_bit_43 : decode cX1_bit 43 = .ok (.iadd, 1) := by decide +kernel
theorem dX1_bit_44 : decode cX1_bit 44 = .ok (.putfield 20, 3) := by decide +kernel
theorem dX1_bit_47 : decode cX1_bit 47 = .ok (.aload_n 0, 1) := by decide +kernel
theorem dX1_bit_48 : decode cX1_bit 48 = .ok (.getfield 20, 3) := by decide +kernel
theorem dX1_bit_51 : decode cX1_bit 51 = .ok (.bipush 8, 2) := by decide +kernel
theorem dX1_bit_53 : decode cX1_bit 53 = .ok (.if_icmp .ne 18, 3) := by decide +kernel
theorem dX1_bit_56 : decode cX1_bit 56 = .ok (.aload_n 0, 1) := by decide +kernel
theorem dX1_bit_57 : decode cX1_bit 57 = .ok (.iconst 0, 1) := by decide +kernel
theorem dX1_bit_58 : decode cX1_bit 58 = .ok (.putfield 20, 3) := by decide +kernel
theorem dX1_bit_61 : decode cX1_bit 61 = .ok (.aload_n 0, 1) := by decide +kernel
theorem dX1_bit_62 : decode cX1_bit 62 = .ok (.dup, 1) := by decide +kernel
theorem dX1_bit_63 : decode cX1_bit 63 = .ok (.getfield 13, 3) := by decide +kernel
theorem dX1_bit_66 : decode cX1_bit 66 = .ok (.iconst 1, 1) := by decide +kernel
theorem dX1_bit_67 : decode cX1_bit 67 = .ok (.iadd, 1) := by decide +kernel
theorem dX1_bit_68 : decode cX1_bit 68 = .ok (.putfield 13, 3) := by decide +kernel
theorem dX1_bit_71 : decode cX1_bit 71 = .ok (.iload_n 1, 1) := by decide +kernel
theorem dX1_bit_72 : decode cX1_bit 72 = .ok (.ireturn, 1) := by decide +kernel
theorem dX1_bits_0 : decode cX1_bits 0 = .ok (.iconst 0, 1) := by decide +kernel
theorem dX1_bits_1 : decode cX1_bits 1 = .ok (.istore_n 2, 1) := by decide +kernel
theorem dX1_bits_2 : decode cX1_bits 2 = .ok (.iconst 0, 1) := by decide +kernel
theorem dX1_bits_3 : decode cX1_bits 3 = .ok (.istore_n 3, 1) := by decide +kernel
theorem dX1_bits_4 : decode cX1_bits 4 = .ok (.iload_n 3, 1) := by decide +kernel
theorem dX1_bits_5 : decode cX1_bits 5 = .ok (.iload_n 1, 1) := by decide +kernel
theorem dX1_bits_6 : decode cX1_bits 6 = .ok (.if_icmp .ge 18, 3) := by decide +kernel
theorem dX1_bits_9 : decode cX1_bits 9 = .ok (.iload_n 2, 1) := by decide +kernel
theorem dX1_bits_10 : decode cX1_bits 10 = .ok (.aload_n 0, 1) := by decide +kernel
theorem dX1_bits_11 : decode cX1_bits 11 = .ok (.invokevirtual 33, 3) := by decide +kernel
theorem dX1_bits_14 : decode cX1_bits 14 = .ok (.iload_n 3, 1) := by decide +kernel
theorem dX1_bits_15 : decode cX1_bits 15 = .ok (.ishl, 1) := by decide +kernel
theorem dX1_bits_16 : decode cX1_bits 16 = .ok (.ior, 1) := by decide +kernel
theorem dX1_bits_17 : decode cX1_bits 17 = .ok (.istore_n 2, 1) := by decide +kernel
theorem dX1_bits_18 : decode cX1_bits 18 = .ok (.iinc 3 1, 3) := by decide +kernel
theorem dX1_bits_21 : decode cX1_bits 21 = .ok (.goto (-17), 3) := by decide +kernel
theorem dX1_bits_24 : decode cX1_bits 24 = .ok (.iload_n 2, 1) := by decide +kernel
theorem dX1_bits_25 : decode cX1_bits 25 = .ok (.ireturn, 1) := by decide +kernel
theorem dX1_endByte_0 : decode cX1_endByte 0 = .ok (.aload_n 0, 1) := by decide +kernel
theorem dX1_endByte_1 : decode cX1_endByte 1 = .ok (.getfield 20, 3) := by decide +kernel
theorem dX1_endByte_4 : decode cX1_endByte 4 = .ok (.ifCond .le 18, 3) := by decide +kernel
theorem dX1_endByte_7 : decode cX1_endByte 7 = .ok (.aload_n 0, 1) := by decide +kernel
theorem dX1_endByte_8 : decode cX1_endByte 8 = .ok (.iconst 0, 1) := by decide +kernel
theorem dX1_endByte_9 : decode cX1_endByte 9 = .ok (.putfield 20, 3) := by decide +kernel
theorem dX1_endByte_12 : decode cX1_endByte 12 = .ok (.aload_n 0, 1) := by decide +kernel
theorem dX1_endByte_13 : decode cX1_endByte 13 = .ok (.dup, 1) := by decide +kernel
theorem dX1_endByte_14 : decode cX1_endByte 14 = .ok (.getfield 13, 3) := by decide +kernel
theorem dX1_endByte_17 : decode cX1_endByte 17 = .ok (.iconst 1, 1) := by decide +kernel
theorem dX1_endByte_18 : decode cX1_endByte 18 = .ok (.iadd, 1) := by decide +kernel
theorem dX1_endByte_19 : decode cX1_endByte 19 = .ok (.putfield 13, 3) := by decide +kernel
theorem dX1_endByte_22 : decode cX1_endByte 22 = .ok (.return_, 1) := by decide +kernel
theorem dX1_bytesLeft_0 : decode cX1_bytesLeft 0 = .ok (.aload_n 0, 1) := by decide +kernel
theorem dX1_bytesLeft_1 : decode cX1_bytesLeft 1 = .ok (.getfield 17, 3) := by decide +kernel
theorem dX1_bytesLeft_4 : decode cX1_bytesLeft 4 = .ok (.aload_n 0, 1) := by decide +kernel
theorem dX1_bytesLeft_5 : decode cX1_bytesLeft 5 = .ok (.getfield 13, 3) := by decide +kernel
theorem dX1_bytesLeft_8 : decode cX1_bytesLeft 8 = .ok (.isub, 1) := by decide +kernel
theorem dX1_bytesLeft_9 : decode cX1_bytesLeft 9 = .ok (.ireturn, 1) := by decide +kernel
theorem dX2_init_0 : decode cX2_init 0 = .ok (.aload_n 0, 1) := by decide +kernel
theorem dX2_init_1 : decode cX2_init 1 = .ok (.invokespecial 1, 3) := by decide +kernel
theorem dX2_init_4 : decode cX2_init 4 = .ok (.aload_n 0, 1) := by decide +kernel
theorem dX2_init_5 : decode cX2_init 5 = .ok (.iload_n 1, 1) := by decide +kernel
theorem dX2_init_6 : decode cX2_init 6 = .ok (.ifCond .ge 7, 3) := by decide +kernel
theorem dX2_init_9 : decode cX2_init 9 = .ok (.iconst 0, 1) := by decide +kernel
theorem dX2_init_10 : decode cX2_init 10 = .ok (.goto 4, 3) := by decide +kernel
theorem dX2_init_13 : decode cX2_init 13 = .ok (.iload_n 1, 1) := by decide +kernel
theorem dX2_init_14 : decode cX2_init 14 = .ok (.newarray .byte, 2) := by decide +kernel
theorem dX2_init_16 : decode cX2_init 16 = .ok (.putfield 7, 3) := by decide +kernel
theorem dX2_init_19 : decode cX2_init 19 = .ok (.aload_n 0, 1) := by decide +kernel
theorem dX2_init_20 : decode cX2_init 20 = .ok (.iconst 0, 1) := by decide +kernel
theorem dX2_init_21 : decode cX2_init 21 = .ok (.putfield 13, 3) := by decide +kernel
theorem dX2_init_24 : decode cX2_init 24 = .ok (.return_, 1) := by decide +kernel
theorem dX2_count_0 : decode cX2_count 0 = .ok (.aload_n 0, 1) := by decide +kernel
theorem dX2_count_1 : decode cX2_count 1 = .ok (.getfield 13, 3) := by decide +kernel
theorem dX2_count_4 : decode cX2_count 4 = .ok (.ireturn, 1) := by decide +kernel
theorem dX2_room_0 : decode cX2_room 0 = .ok (.aload_n 0, 1) := by decide +kernel
theorem dX2_room_1 : decode cX2_room 1 = .ok (.getfield 7, 3) := by decide +kernel
theorem dX2_room_4 : decode cX2_room 4 = .ok (.arraylength, 1) := by decide +kernel
theorem dX2_room_5 : decode cX2_room 5 = .ok (.aload_n 0, 1) := by decide +kernel
theorem dX2_room_6 : decode cX2_room 6 = .ok (.getfield 13, 3) := by decide +kernel
theorem dX2_room_9 : decode cX2_room 9 = .ok (.isub, 1) := by decide +kernel
theorem dX2_room_10 : decode cX2_room 10 = .ok (.ireturn, 1) := by decide +kernel
theorem dX2_at_0 : decode cX2_at 0 = .ok (.iload_n 1, 1) := by decide +kernel
theorem dX2_at_1 : decode cX2_at 1 = .ok (.ifCond .lt 33, 3) := by decide +kernel
theorem dX2_at_4 : decode cX2_at 4 = .ok (.iload_n 1, 1) := by decide +kernel
theorem dX2_at_5 : decode cX2_at 5 = .ok (.aload_n 0, 1) := by decide +kernel
theorem dX2_at_6 : decode cX2_at 6 = .ok (.getfield 13, 3) := by decide +kernel
theorem dX2_at_9 : decode cX2_at 9 = .ok (.if_icmp .ge 25, 3) := by decide +kernel
theorem dX2_at_12 : decode cX2_at 12 = .ok (.iload_n 1, 1) := by decide +kernel
theorem dX2_at_13 : decode cX2_at 13 = .ok (.aload_n 0, 1) := by decide +kernel
theorem dX2_at_14 : decode cX2_at 14 = .ok (.getfield 7, 3) := by decide +kernel
theorem dX2_at_17 : decode cX2_at 17 = .ok (.arraylength, 1) := by decide +kernel
theorem dX2_at_18 : decode cX2_at 18 = .ok (.if_icmp .ge 16, 3) := by decide +kernel
theorem dX2_at_21 : decode cX2_at 21 = .ok (.aload_n 0, 1) := by decide +kernel
theorem dX2_at_22 : decode cX2_at 22 = .ok (.getfield 7, 3) := by decide +kernel
theorem dX2_at_25 : decode cX2_at 25 = .ok (.iload_n 1, 1) := by decide +kernel
theorem dX2_at_26 : decode cX2_at 26 = .ok (.baload, 1) := by decide +kernel
theorem dX2_at_27 : decode cX2_at 27 = .ok (.sipush 255, 3) := by decide +kernel
theorem dX2_at_30 : decode cX2_at 30 = .ok (.iand, 1) := by decide +kernel
theorem dX2_at_31 : decode cX2_at 31 = .ok (.goto 4, 3) := by decide +kernel
theorem dX2_at_34 : decode cX2_at 34 = .ok (.iconst 0, 1) := by decide +kernel
theorem dX2_at_35 : decode cX2_at 35 = .ok (.ireturn, 1) := by decide +kernel
theorem dX2_set_0 : decode cX2_set 0 = .ok (.iload_n 1, 1) := by decide +kernel
theorem dX2_set_1 : decode cX2_set 1 = .ok (.ifCond .lt 28, 3) := by decide +kernel
theorem dX2_set_4 : decode cX2_set 4 = .ok (.iload_n 1, 1) := by decide +kernel
theorem dX2_set_5 : decode cX2_set 5 = .ok (.aload_n 0, 1) := by decide +kernel
theorem dX2_set_6 : decode cX2_set 6 = .ok (.getfield 13, 3) := by decide +kernel
theorem dX2_set_9 : decode cX2_set 9 = .ok (.if_icmp .ge 20, 3) := by decide +kernel
theorem dX2_set_12 : decode cX2_set 12 = .ok (.iload_n 1, 1) := by decide +kernel
theorem dX2_set_13 : decode cX2_set 13 = .ok (.aload_n 0, 1) := by decide +kernel
theorem dX2_set_14 : decode cX2_set 14 = .ok (.getfield 7, 3) := by decide +kernel
theorem dX2_set_17 : decode cX2_set 17 = .ok (.arraylength, 1) := by decide +kernel
theorem dX2_set_18 : decode cX2_set 18 = .ok (.if_icmp .ge 11, 3) := by decide +kernel
theorem dX2_set_21 : decode cX2_set 21 = .ok (.aload_n 0, 1) := by decide +kernel
theorem dX2_set_22 : decode cX2_set 22 = .ok (.getfield 7, 3) := by decide +kernel
theorem dX2_set_25 : decode cX2_set 25 = .ok (.iload_n 1, 1) := by decide +kernel
theorem dX2_set_26 : decode cX2_set 26 = .ok (.iload_n 2, 1) := by decide +kernel
theorem dX2_set_27 : decode cX2_set 27 = .ok (.i2b, 1) := by decide +kernel
theorem dX2_set_28 : decode cX2_set 28 = .ok (.bastore, 1) := by decide +kernel
theorem dX2_set_29 : decode cX2_set 29 = .ok (.return_, 1) := by decide +kernel
theorem dX2_add_0 : decode cX2_add 0 = .ok (.aload_n 0, 1) := by decide +kernel
theorem dX2_add_1 : decode cX2_add 1 = .ok (.getfield 13, 3) := by decide +kernel
theorem dX2_add_4 : decode cX2_add 4 = .ok (.ifCond .lt 36, 3) := by decide +kernel
theorem dX2_add_7 : decode cX2_add 7 = .ok (.aload_n 0, 1) := by decide +kernel
theorem dX2_add_8 : decode cX2_add 8 = .ok (.getfield 13, 3) := by decide +kernel
theorem dX2_add_11 : decode cX2_add 11 = .ok (.aload_n 0, 1) := by decide +kernel
theorem dX2_add_12 : decode cX2_add 12 = .ok (.getfield 7, 3) := by decide +kernel
theorem dX2_add_15 : decode cX2_add 15 = .ok (.arraylength, 1) := by decide +kernel
theorem dX2_add_16 : decode cX2_add 16 = .ok (.if_icmp .ge 24, 3) := by decide +kernel
theorem dX2_add_19 : decode cX2_add 19 = .ok (.aload_n 0, 1) := by decide +kernel
theorem dX2_add_20 : decode cX2_add 20 = .ok (.getfield 7, 3) := by decide +kernel
theorem dX2_add_23 : decode cX2_add 23 = .ok (.aload_n 0, 1) := by decide +kernel
theorem dX2_add_24 : decode cX2_add 24 = .ok (.getfield 13, 3) := by decide +kernel
theorem dX2_add_27 : decode cX2_add 27 = .ok (.iload_n 1, 1) := by decide +kernel
theorem dX2_add_28 : decode cX2_add 28 = .ok (.i2b, 1) := by decide +kernel
theorem dX2_add_29 : decode cX2_add 29 = .ok (.bastore, 1) := by decide +kernel
theorem dX2_add_30 : decode cX2_add 30 = .ok (.aload_n 0, 1) := by decide +kernel
theorem dX2_add_31 : decode cX2_add 31 = .ok (.dup, 1) := by decide +kernel
theorem dX2_add_32 : decode cX2_add 32 = .ok (.getfield 13, 3) := by decide +kernel
theorem dX2_add_35 : decode cX2_add 35 = .ok (.iconst 1, 1) := by decide +kernel
theorem dX2_add_36 : decode cX2_add 36 = .ok (.iadd, 1) := by decide +kernel
theorem dX2_add_37 : decode cX2_add 37 = .ok (.putfield 13, 3) := by decide +kernel
theorem dX2_add_40 : decode cX2_add 40 = .ok (.return_, 1) := by decide +kernel
theorem dX2_addZeros_0 : decode cX2_addZeros 0 = .ok (.iconst 0, 1) := by decide +kernel
theorem dX2_addZeros_1 : decode cX2_addZeros 1 = .ok (.istore_n 2, 1) := by decide +kernel
theorem dX2_addZeros_2 : decode cX2_addZeros 2 = .ok (.iload_n 2, 1) := by decide +kernel
theorem dX2_addZeros_3 : decode cX2_addZeros 3 = .ok (.iload_n 1, 1) := by decide +kernel
theorem dX2_addZeros_4 : decode cX2_addZeros 4 = .ok (.if_icmp .ge 14, 3) := by decide +kernel
theorem dX2_addZeros_7 : decode cX2_addZeros 7 = .ok (.aload_n 0, 1) := by decide +kernel
theorem dX2_addZeros_8 : decode cX2_addZeros 8 = .ok (.iconst 0, 1) := by decide +kernel
theorem dX2_addZeros_9 : decode cX2_addZeros 9 = .ok (.invokevirtual 17, 3) := by decide +kernel
theorem dX2_addZeros_12 : decode cX2_addZeros 12 = .ok (.iinc 2 1, 3) := by decide +kernel
theorem dX2_addZeros_15 : decode cX2_addZeros 15 = .ok (.goto (-13), 3) := by decide +kernel
theorem dX2_addZeros_18 : decode cX2_addZeros 18 = .ok (.return_, 1) := by decide +kernel
theorem dX2_addAll_0 : decode cX2_addAll 0 = .ok (.iload_n 3, 1) := by decide +kernel
theorem dX2_addAll_1 : decode cX2_addAll 1 = .ok (.ifCond .lt 31, 3) := by decide +kernel
theorem dX2_addAll_4 : decode cX2_addAll 4 = .ok (.iload_n 2, 1) := by decide +kernel
theorem dX2_addAll_5 : decode cX2_addAll 5 = .ok (.ifCond .lt 27, 3) := by decide +kernel
theorem dX2_addAll_8 : decode cX2_addAll 8 = .ok (.iload_n 2, 1) := by decide +kernel
theorem dX2_addAll_9 : decode cX2_addAll 9 = .ok (.aload_n 1, 1) := by decide +kernel
theorem dX2_addAll_10 : decode cX2_addAll 10 = .ok (.getfield 13, 3) := by decide +kernel
theorem dX2_addAll_13 : decode cX2_addAll 13 = .ok (.iload_n 3, 1) := by decide +kernel
theorem dX2_addAll_14 : decode cX2_addAll 14 = .ok (.isub, 1) := by decide +kernel
theorem dX2_addAll_15 : decode cX2_addAll 15 = .ok (.if_icmp .gt 17, 3) := by decide +kernel
theorem dX2_addAll_18 : decode cX2_addAll 18 = .ok (.iload_n 3, 1) := by decide +kernel
theorem dX2_addAll_19 : decode cX2_addAll 19 = .ok (.aload_n 0, 1) := by decide +kernel
theorem dX2_addAll_20 : decode cX2_addAll 20 = .ok (.getfield 7, 3) := by decide +kernel
theorem dX2_addAll_23 : decode cX2_addAll 23 = .ok (.arraylength, 1) := by decide +kernel
theorem dX2_addAll_24 : decode cX2_addAll 24 = .ok (.aload_n 0, 1) := by decide +kernel
theorem dX2_addAll_25 : decode cX2_addAll 25 = .ok (.getfield 13, 3) := by decide +kernel
theorem dX2_addAll_28 : decode cX2_addAll 28 = .ok (.isub, 1) := by decide +kernel
theorem dX2_addAll_29 : decode cX2_addAll 29 = .ok (.if_icmp .le 4, 3) := by decide +kernel
theorem dX2_addAll_32 : decode cX2_addAll 32 = .ok (.return_, 1) := by decide +kernel
theorem dX2_addAll_33 : decode cX2_addAll 33 = .ok (.aload_n 1, 1) := by decide +kernel
theorem dX2_addAll_34 : decode cX2_addAll 34 = .ok (.getfield 7, 3) := by decide +kernel
theorem dX2_addAll_37 : decode cX2_addAll 37 = .ok (.iload_n 2, 1) := by decide +kernel
theorem dX2_addAll_38 : decode cX2_addAll 38 = .ok (.aload_n 0, 1) := by decide +kernel
theorem dX2_addAll_39 : decode cX2_addAll 39 = .ok (.getfield 7, 3) := by decide +kernel
theorem dX2_addAll_42 : decode cX2_addAll 42 = .ok (.aload_n 0, 1) := by decide +kernel
theorem dX2_addAll_43 : decode cX2_addAll 43 = .ok (.getfield 13, 3) := by decide +kernel
theorem dX2_addAll_46 : decode cX2_addAll 46 = .ok (.iload_n 3, 1) := by decide +kernel
theorem dX2_addAll_47 : decode cX2_addAll 47 = .ok (.invokestatic 21, 3) := by decide +kernel
theorem dX2_addAll_50 : decode cX2_addAll 50 = .ok (.aload_n 0, 1) := by decide +kernel
theorem dX2_addAll_51 : decode cX2_addAll 51 = .ok (.dup, 1) := by decide +kernel
theorem dX2_addAll_52 : decode cX2_addAll 52 = .ok (.getfield 13, 3) := by decide +kernel
theorem dX2_addAll_55 : decode cX2_addAll 55 = .ok (.iload_n 3, 1) := by decide +kernel
theorem dX2_addAll_56 : decode cX2_addAll 56 = .ok (.iadd, 1) := by decide +kernel
theorem dX2_addAll_57 : decode cX2_addAll 57 = .ok (.putfield 13, 3) := by decide +kernel
theorem dX2_addAll_60 : decode cX2_addAll 60 = .ok (.return_, 1) := by decide +kernel
theorem dX2_keep_0 : decode cX2_keep 0 = .ok (.iload_n 1, 1) := by decide +kernel
theorem dX2_keep_1 : decode cX2_keep 1 = .ok (.ifCond .lt 16, 3) := by decide +kernel
theorem dX2_keep_4 : decode cX2_keep 4 = .ok (.iload_n 1, 1) := by decide +kernel
theorem dX2_keep_5 : decode cX2_keep 5 = .ok (.aload_n 0, 1) := by decide +kernel
theorem dX2_keep_6 : decode cX2_keep 6 = .ok (.getfield 13, 3) := by decide +kernel
theorem dX2_keep_9 : decode cX2_keep 9 = .ok (.if_icmp .ge 8, 3) := by decide +kernel
theorem dX2_keep_12 : decode cX2_keep 12 = .ok (.aload_n 0, 1) := by decide +kernel
theorem dX2_keep_13 : decode cX2_keep 13 = .ok (.iload_n 1, 1) := by decide +kernel
theorem dX2_keep_14 : decode cX2_keep 14 = .ok (.putfield 13, 3) := by decide +kernel
theorem dX2_keep_17 : decode cX2_keep 17 = .ok (.return_, 1) := by decide +kernel
theorem dX2_open_0 : decode cX2_open 0 = .ok (.iload_n 1, 1) := by decide +kernel
theorem dX2_open_1 : decode cX2_open 1 = .ok (.ifCond .lt 29, 3) := by decide +kernel
theorem dX2_open_4 : decode cX2_open 4 = .ok (.iload_n 1, 1) := by decide +kernel
theorem dX2_open_5 : decode cX2_open 5 = .ok (.aload_n 0, 1) := by decide +kernel
theorem dX2_open_6 : decode cX2_open 6 = .ok (.getfield 13, 3) := by decide +kernel
theorem dX2_open_9 : decode cX2_open 9 = .ok (.if_icmp .gt 21, 3) := by decide +kernel
theorem dX2_open_12 : decode cX2_open 12 = .ok (.iload_n 2, 1) := by decide +kernel
theorem dX2_open_13 : decode cX2_open 13 = .ok (.ifCond .lt 17, 3) := by decide +kernel
theorem dX2_open_16 : decode cX2_open 16 = .ok (.iload_n 2, 1) := by decide +kernel
theorem dX2_open_17 : decode cX2_open 17 = .ok (.aload_n 0, 1) := by decide +kernel
theorem dX2_open_18 : decode cX2_open 18 = .ok (.getfield 7, 3) := by decide +kernel
theorem dX2_open_21 : decode cX2_open 21 = .ok (.arraylength, 1) := by decide +kernel
theorem dX2_open_22 : decode cX2_open 22 = .ok (.aload_n 0, 1) := by decide +kernel
theorem dX2_open_23 : decode cX2_open 23 = .ok (.getfield 13, 3) := by decide +kernel
theorem dX2_open_26 : decode cX2_open 26 = .ok (.isub, 1) := by decide +kernel
theorem dX2_open_27 : decode cX2_open 27 = .ok (.if_icmp .le 4, 3) := by decide +kernel
theorem dX2_open_30 : decode cX2_open 30 = .ok (.return_, 1) := by decide +kernel
theorem dX2_open_31 : decode cX2_open 31 = .ok (.aload_n 0, 1) := by decide +kernel
theorem dX2_open_32 : decode cX2_open 32 = .ok (.getfield 7, 3) := by decide +kernel
theorem dX2_open_35 : decode cX2_open 35 = .ok (.iload_n 1, 1) := by decide +kernel
theorem dX2_open_36 : decode cX2_open 36 = .ok (.aload_n 0, 1) := by decide +kernel
theorem dX2_open_37 : decode cX2_open 37 = .ok (.getfield 7, 3) := by decide +kernel
theorem dX2_open_40 : decode cX2_open 40 = .ok (.iload_n 1, 1) := by decide +kernel
theorem dX2_open_41 : decode cX2_open 41 = .ok (.iload_n 2, 1) := by decide +kernel
theorem dX2_open_42 : decode cX2_open 42 = .ok (.iadd, 1) := by decide +kernel
theorem dX2_open_43 : decode cX2_open 43 = .ok (.aload_n 0, 1) := by decide +kernel
theorem dX2_open_44 : decode cX2_open 44 = .ok (.getfield 13, 3) := by decide +kernel
theorem dX2_open_47 : decode cX2_open 47 = .ok (.iload_n 1, 1) := by decide +kernel
theorem dX2_open_48 : decode cX2_open 48 = .ok (.isub, 1) := by decide +kernel
theorem dX2_open_49 : decode cX2_open 49 = .ok (.invokestatic 21, 3) := by decide +kernel
theorem dX2_open_52 : decode cX2_open 52 = .ok (.aload_n 0, 1) := by decide +kernel
theorem dX2_open_53 : decode cX2_open 53 = .ok (.dup, 1) := by decide +kernel
theorem dX2_open_54 : decode cX2_open 54 = .ok (.getfield 13, 3) := by decide +kernel
theorem dX2_open_57 : decode cX2_open 57 = .ok (.iload_n 2, 1) := by decide +kernel
theorem dX2_open_58 : decode cX2_open 58 = .ok (.iadd, 1) := by decide +kernel
theorem dX2_open_59 : decode cX2_open 59 = .ok (.putfield 13, 3) := by decide +kernel
theorem dX2_open_62 : decode cX2_open 62 = .ok (.return_, 1) := by decide +kernel
theorem dX2_close_0 : decode cX2_close 0 = .ok (.iload_n 1, 1) := by decide +kernel
theorem dX2_close_1 : decode cX2_close 1 = .ok (.ifCond .lt 17, 3) := by decide +kernel
theorem dX2_close_4 : decode cX2_close 4 = .ok (.iload_n 2, 1) := by decide +kernel
theorem dX2_close_5 : decode cX2_close 5 = .ok (.ifCond .lt 13, 3) := by decide +kernel
theorem dX2_close_8 : decode cX2_close 8 = .ok (.iload_n 1, 1) := by decide +kernel
theorem dX2_close_9 : decode cX2_close 9 = .ok (.aload_n 0, 1) := by decide +kernel
theorem dX2_close_10 : decode cX2_close 10 = .ok (.getfield 13, 3) := by decide +kernel
theorem dX2_close_13 : decode cX2_close 13 = .ok (.iload_n 2, 1) := by decide +kernel
theorem dX2_close_14 : decode cX2_close 14 = .ok (.isub, 1) := by decide +kernel
theorem dX2_close_15 : decode cX2_close 15 = .ok (.if_icmp .le 4, 3) := by decide +kernel
theorem dX2_close_18 : decode cX2_close 18 = .ok (.return_, 1) := by decide +kernel
theorem dX2_close_19 : decode cX2_close 19 = .ok (.aload_n 0, 1) := by decide +kernel
theorem dX2_close_20 : decode cX2_close 20 = .ok (.getfield 7, 3) := by decide +kernel
theorem dX2_close_23 : decode cX2_close 23 = .ok (.iload_n 1, 1) := by decide +kernel
theorem dX2_close_24 : decode cX2_close 24 = .ok (.iload_n 2, 1) := by decide +kernel
theorem dX2_close_25 : decode cX2_close 25 = .ok (.iadd, 1) := by decide +kernel
theorem dX2_close_26 : decode cX2_close 26 = .ok (.aload_n 0, 1) := by decide +kernel
theorem dX2_close_27 : decode cX2_close 27 = .ok (.getfield 7, 3) := by decide +kernel
theorem dX2_close_30 : decode cX2_close 30 = .ok (.iload_n 1, 1) := by decide +kernel
theorem dX2_close_31 : decode cX2_close 31 = .ok (.aload_n 0, 1) := by decide +kernel
theorem dX2_close_32 : decode cX2_close 32 = .ok (.getfield 13, 3) := by decide +kernel
theorem dX2_close_35 : decode cX2_close 35 = .ok (.iload_n 1, 1) := by decide +kernel
theorem dX2_close_36 : decode cX2_close 36 = .ok (.isub, 1) := by decide +kernel
theorem dX2_close_37 : decode cX2_close 37 = .ok (.iload_n 2, 1) := by decide +kernel
theorem dX2_close_38 : decode cX2_close 38 = .ok (.isub, 1) := by decide +kernel
theorem dX2_close_39 : decode cX2_close 39 = .ok (.invokestatic 21, 3) := by decide +kernel
theorem dX2_close_42 : decode cX2_close 42 = .ok (.aload_n 0, 1) := by decide +kernel
theorem dX2_close_43 : decode cX2_close 43 = .ok (.dup, 1) := by decide +kernel
theorem dX2_close_44 : decode cX2_close 44 = .ok (.getfield 13, 3) := by decide +kernel
theorem dX2_close_47 : decode cX2_close 47 = .ok (.iload_n 2, 1) := by decide +kernel
theorem dX2_close_48 : decode cX2_close 48 = .ok (.isub, 1) := by decide +kernel
theorem dX2_close_49 : decode cX2_close 49 = .ok (.putfield 13, 3) := by decide +kernel
theorem dX2_close_52 : decode cX2_close 52 = .ok (.return_, 1) := by decide +kernel
theorem dX2_eightFrom_0 : decode cX2_eightFrom 0 = .ok (.iload_n 1, 1) := by decide +kernel
theorem dX2_eightFrom_1 : decode cX2_eightFrom 1 = .ok (.ifCond .lt 14, 3) := by decide +kernel
theorem dX2_eightFrom_4 : decode cX2_eightFrom 4 = .ok (.iload_n 1, 1) := by decide +kernel
theorem dX2_eightFrom_5 : decode cX2_eightFrom 5 = .ok (.aload_n 0, 1) := by decide +kernel
theorem dX2_eightFrom_6 : decode cX2_eightFrom 6 = .ok (.getfield 13, 3) := by decide +kernel
theorem dX2_eightFrom_9 : decode cX2_eightFrom 9 = .ok (.bipush 8, 2) := by decide +kernel
theorem dX2_eightFrom_11 : decode cX2_eightFrom 11 = .ok (.idiv, 1) := by decide +kernel
theorem dX2_eightFrom_12 : decode cX2_eightFrom 12 = .ok (.if_icmp .le 5, 3) := by decide +kernel
theorem dX2_eightFrom_15 : decode cX2_eightFrom 15 = .ok (.lconst 0, 1) := by decide +kernel
theorem dX2_eightFrom_16 : decode cX2_eightFrom 16 = .ok (.lreturn, 1) := by decide +kernel
theorem dX2_eightFrom_17 : decode cX2_eightFrom 17 = .ok (.lconst 0, 1) := by decide +kernel
theorem dX2_eightFrom_18 : decode cX2_eightFrom 18 = .ok (.lstore_n 2, 1) := by decide +kernel
theorem dX2_eightFrom_19 : decode cX2_eightFrom 19 = .ok (.bipush 7, 2) := by decide +kernel
theorem dX2_eightFrom_21 : decode cX2_eightFrom 21 = .ok (.istore 4, 2) := by decide +kernel
theorem dX2_eightFrom_23 : decode cX2_eightFrom 23 = .ok (.iload 4, 2) := by decide +kernel
theorem dX2_eightFrom_25 : decode cX2_eightFrom 25 = .ok (.ifCond .lt 27, 3) := by decide +kernel
theorem dX2_eightFrom_28 : decode cX2_eightFrom 28 = .ok (.lload_n 2, 1) := by decide +kernel
theorem dX2_eightFrom_29 : decode cX2_eightFrom 29 = .ok (.bipush 8, 2) := by decide +kernel
theorem dX2_eightFrom_31 : decode cX2_eightFrom 31 = .ok (.lshl, 1) := by decide +kernel
theorem dX2_eightFrom_32 : decode cX2_eightFrom 32 = .ok (.aload_n 0, 1) := by decide +kernel
theorem dX2_eightFrom_33 : decode cX2_eightFrom 33 = .ok (.bipush 8, 2) := by decide +kernel
theorem dX2_eightFrom_35 : decode cX2_eightFrom 35 = .ok (.iload_n 1, 1) := by decide +kernel
theorem dX2_eightFrom_36 : decode cX2_eightFrom 36 = .ok (.imul, 1) := by decide +kernel
theorem dX2_eightFrom_37 : decode cX2_eightFrom 37 = .ok (.iload 4, 2) := by decide +kernel
theorem dX2_eightFrom_39 : decode cX2_eightFrom 39 = .ok (.iadd, 1) := by decide +kernel
theorem dX2_eightFrom_40 : decode cX2_eightFrom 40 = .ok (.invokevirtual 27, 3) := by decide +kernel
theorem dX2_eightFrom_43 : decode cX2_eightFrom 43 = .ok (.i2l, 1) := by decide +kernel
theorem dX2_eightFrom_44 : decode cX2_eightFrom 44 = .ok (.lor, 1) := by decide +kernel
theorem dX2_eightFrom_45 : decode cX2_eightFrom 45 = .ok (.lstore_n 2, 1) := by decide +kernel
theorem dX2_eightFrom_46 : decode cX2_eightFrom 46 = .ok (.iinc 4 (-1), 3) := by decide +kernel
theorem dX2_eightFrom_49 : decode cX2_eightFrom 49 = .ok (.goto (-26), 3) := by decide +kernel
theorem dX2_eightFrom_52 : decode cX2_eightFrom 52 = .ok (.lload_n 2, 1) := by decide +kernel
theorem dX2_eightFrom_53 : decode cX2_eightFrom 53 = .ok (.lreturn, 1) := by decide +kernel
theorem dX2_threeFrom_0 : decode cX2_threeFrom 0 = .ok (.iload_n 1, 1) := by decide +kernel
theorem dX2_threeFrom_1 : decode cX2_threeFrom 1 = .ok (.ifCond .lt 21, 3) := by decide +kernel
theorem dX2_threeFrom_4 : decode cX2_threeFrom 4 = .ok (.iload_n 1, 1) := by decide +kernel
theorem dX2_threeFrom_5 : decode cX2_threeFrom 5 = .ok (.aload_n 0, 1) := by decide +kernel
theorem dX2_threeFrom_6 : decode cX2_threeFrom 6 = .ok (.getfield 13, 3) := by decide +kernel
theorem dX2_threeFrom_9 : decode cX2_threeFrom 9 = .ok (.aload_n 0, 1) := by decide +kernel
theorem dX2_threeFrom_10 : decode cX2_threeFrom 10 = .ok (.getfield 7, 3) := by decide +kernel
theorem dX2_threeFrom_13 : decode cX2_threeFrom 13 = .ok (.arraylength, 1) := by decide +kernel
theorem dX2_threeFrom_14 : decode cX2_threeFrom 14 = .ok (.invokestatic 31, 3) := by decide +kernel
theorem dX2_threeFrom_17 : decode cX2_threeFrom 17 = .ok (.iconst 2, 1) := by decide +kernel
theorem dX2_threeFrom_18 : decode cX2_threeFrom 18 = .ok (.isub, 1) := by decide +kernel
theorem dX2_threeFrom_19 : decode cX2_threeFrom 19 = .ok (.if_icmp .lt 5, 3) := by decide +kernel
theorem dX2_threeFrom_22 : decode cX2_threeFrom 22 = .ok (.iconst 0, 1) := by decide +kernel
theorem dX2_threeFrom_23 : decode cX2_threeFrom 23 = .ok (.ireturn, 1) := by decide +kernel
theorem dX2_threeFrom_24 : decode cX2_threeFrom 24 = .ok (.aload_n 0, 1) := by decide +kernel
theorem dX2_threeFrom_25 : decode cX2_threeFrom 25 = .ok (.getfield 7, 3) := by decide +kernel
theorem dX2_threeFrom_28 : decode cX2_threeFrom 28 = .ok (.iload_n 1, 1) := by decide +kernel
theorem dX2_threeFrom_29 : decode cX2_threeFrom 29 = .ok (.baload, 1) := by decide +kernel
theorem dX2_threeFrom_30 : decode cX2_threeFrom 30 = .ok (.sipush 255, 3) := by decide +kernel
theorem dX2_threeFrom_33 : decode cX2_threeFrom 33 = .ok (.iand, 1) := by decide +kernel
theorem dX2_threeFrom_34 : decode cX2_threeFrom 34 = .ok (.aload_n 0, 1) := by decide +kernel
theorem dX2_threeFrom_35 : decode cX2_threeFrom 35 = .ok (.getfield 7, 3) := by decide +kernel
theorem dX2_threeFrom_38 : decode cX2_threeFrom 38 = .ok (.iload_n 1, 1) := by decide +kernel
theorem dX2_threeFrom_39 : decode cX2_threeFrom 39 = .ok (.iconst 1, 1) := by decide +kernel
theorem dX2_threeFrom_40 : decode cX2_threeFrom 40 = .ok (.iadd, 1) := by decide +kernel
theorem dX2_threeFrom_41 : decode cX2_threeFrom 41 = .ok (.baload, 1) := by decide +kernel
theorem dX2_threeFrom_42 : decode cX2_threeFrom 42 = .ok (.sipush 255, 3) := by decide +kernel
theorem dX2_threeFrom_45 : decode cX2_threeFrom 45 = .ok (.iand, 1) := by decide +kernel
theorem dX2_threeFrom_46 : decode cX2_threeFrom 46 = .ok (.bipush 8, 2) := by decide +kernel
theorem dX2_threeFrom_48 : decode cX2_threeFrom 48 = .ok (.ishl, 1) := by decide +kernel
theorem dX2_threeFrom_49 : decode cX2_threeFrom 49 = .ok (.ior, 1) := by decide +kernel
theorem dX2_threeFrom_50 : decode cX2_threeFrom 50 = .ok (.aload_n 0, 1) := by decide +kernel
theorem dX2_threeFrom_51 : decode cX2_threeFrom 51 = .ok (.getfield 7, 3) := by decide +kernel
theorem dX2_threeFrom_54 : decode cX2_threeFrom 54 = .ok (.iload_n 1, 1) := by decide +kernel
theorem dX2_threeFrom_55 : decode cX2_threeFrom 55 = .ok (.iconst 2, 1) := by decide +kernel
theorem dX2_threeFrom_56 : decode cX2_threeFrom 56 = .ok (.iadd, 1) := by decide +kernel
theorem dX2_threeFrom_57 : decode cX2_threeFrom 57 = .ok (.baload, 1) := by decide +kernel
theorem dX2_threeFrom_58 : decode cX2_threeFrom 58 = .ok (.sipush 255, 3) := by decide +kernel
theorem dX2_threeFrom_61 : decode cX2_threeFrom 61 = .ok (.iand, 1) := by decide +kernel
theorem dX2_threeFrom_62 : decode cX2_threeFrom 62 = .ok (.bipush 16, 2) := by decide +kernel
theorem dX2_threeFrom_64 : decode cX2_threeFrom 64 = .ok (.ishl, 1) := by decide +kernel
theorem dX2_threeFrom_65 : decode cX2_threeFrom 65 = .ok (.ior, 1) := by decide +kernel
theorem dX2_threeFrom_66 : decode cX2_threeFrom 66 = .ok (.ireturn, 1) := by decide +kernel
theorem dX2_isZero_0 : decode cX2_isZero 0 = .ok (.iconst 0, 1) := by decide +kernel
theorem dX2_isZero_1 : decode cX2_isZero 1 = .ok (.istore_n 3, 1) := by decide +kernel
theorem dX2_isZero_2 : decode cX2_isZero 2 = .ok (.iload_n 3, 1) := by decide +kernel
theorem dX2_isZero_3 : decode cX2_isZero 3 = .ok (.iload_n 2, 1) := by decide +kernel
theorem dX2_isZero_4 : decode cX2_isZero 4 = .ok (.if_icmp .ge 21, 3) := by decide +kernel
theorem dX2_isZero_7 : decode cX2_isZero 7 = .ok (.aload_n 0, 1) := by decide +kernel
theorem dX2_isZero_8 : decode cX2_isZero 8 = .ok (.iload_n 1, 1) := by decide +kernel
theorem dX2_isZero_9 : decode cX2_isZero 9 = .ok (.iload_n 3, 1) := by decide +kernel
theorem dX2_isZero_10 : decode cX2_isZero 10 = .ok (.iadd, 1) := by decide +kernel
theorem dX2_isZero_11 : decode cX2_isZero 11 = .ok (.invokevirtual 27, 3) := by decide +kernel
theorem dX2_isZero_14 : decode cX2_isZero 14 = .ok (.ifCond .eq 5, 3) := by decide +kernel
theorem dX2_isZero_17 : decode cX2_isZero 17 = .ok (.iconst 0, 1) := by decide +kernel
theorem dX2_isZero_18 : decode cX2_isZero 18 = .ok (.ireturn, 1) := by decide +kernel
theorem dX2_isZero_19 : decode cX2_isZero 19 = .ok (.iinc 3 1, 3) := by decide +kernel
theorem dX2_isZero_22 : decode cX2_isZero 22 = .ok (.goto (-20), 3) := by decide +kernel
theorem dX2_isZero_25 : decode cX2_isZero 25 = .ok (.iconst 1, 1) := by decide +kernel
theorem dX2_isZero_26 : decode cX2_isZero 26 = .ok (.ireturn, 1) := by decide +kernel
theorem dX2_sameFrom_0 : decode cX2_sameFrom 0 = .ok (.aload_n 0, 1) := by decide +kernel
theorem dX2_sameFrom_1 : decode cX2_sameFrom 1 = .ok (.getfield 13, 3) := by decide +kernel
theorem dX2_sameFrom_4 : decode cX2_sameFrom 4 = .ok (.aload_n 0, 1) := by decide +kernel
theorem dX2_sameFrom_5 : decode cX2_sameFrom 5 = .ok (.getfield 7, 3) := by decide +kernel
theorem dX2_sameFrom_8 : decode cX2_sameFrom 8 = .ok (.arraylength, 1) := by decide +kernel
theorem dX2_sameFrom_9 : decode cX2_sameFrom 9 = .ok (.invokestatic 31, 3) := by decide +kernel
theorem dX2_sameFrom_12 : decode cX2_sameFrom 12 = .ok (.istore 4, 2) := by decide +kernel
theorem dX2_sameFrom_14 : decode cX2_sameFrom 14 = .ok (.iload_n 1, 1) := by decide +kernel
theorem dX2_sameFrom_15 : decode cX2_sameFrom 15 = .ok (.ifCond .lt 19, 3) := by decide +kernel
theorem dX2_sameFrom_18 : decode cX2_sameFrom 18 = .ok (.iload_n 2, 1) := by decide +kernel
theorem dX2_sameFrom_19 : decode cX2_sameFrom 19 = .ok (.ifCond .lt 15, 3) := by decide +kernel
theorem dX2_sameFrom_22 : decode cX2_sameFrom 22 = .ok (.iload_n 1, 1) := by decide +kernel
theorem dX2_sameFrom_23 : decode cX2_sameFrom 23 = .ok (.iload 4, 2) := by decide +kernel
theorem dX2_sameFrom_25 : decode cX2_sameFrom 25 = .ok (.if_icmp .ge 9, 3) := by decide +kernel
theorem dX2_sameFrom_28 : decode cX2_sameFrom 28 = .ok (.iload_n 2, 1) := by decide +kernel
theorem dX2_sameFrom_29 : decode cX2_sameFrom 29 = .ok (.iload 4, 2) := by decide +kernel
theorem dX2_sameFrom_31 : decode cX2_sameFrom 31 = .ok (.if_icmp .lt 5, 3) := by decide +kernel
theorem dX2_sameFrom_34 : decode cX2_sameFrom 34 = .ok (.iconst 0, 1) := by decide +kernel
theorem dX2_sameFrom_35 : decode cX2_sameFrom 35 = .ok (.ireturn, 1) := by decide +kernel
theorem dX2_sameFrom_36 : decode cX2_sameFrom 36 = .ok (.iload_n 3, 1) := by decide +kernel
theorem dX2_sameFrom_37 : decode cX2_sameFrom 37 = .ok (.iload 4, 2) := by decide +kernel
theorem dX2_sameFrom_39 : decode cX2_sameFrom 39 = .ok (.iload_n 1, 1) := by decide +kernel
theorem dX2_sameFrom_40 : decode cX2_sameFrom 40 = .ok (.iload_n 2, 1) := by decide +kernel
theorem dX2_sameFrom_41 : decode cX2_sameFrom 41 = .ok (.invokestatic 37, 3) := by decide +kernel
theorem dX2_sameFrom_44 : decode cX2_sameFrom 44 = .ok (.isub, 1) := by decide +kernel
theorem dX2_sameFrom_45 : decode cX2_sameFrom 45 = .ok (.invokestatic 31, 3) := by decide +kernel
theorem dX2_sameFrom_48 : decode cX2_sameFrom 48 = .ok (.istore 5, 2) := by decide +kernel
theorem dX2_sameFrom_50 : decode cX2_sameFrom 50 = .ok (.iconst 0, 1) := by decide +kernel
theorem dX2_sameFrom_51 : decode cX2_sameFrom 51 = .ok (.istore 6, 2) := by decide +kernel
theorem dX2_sameFrom_53 : decode cX2_sameFrom 53 = .ok (.iload 6, 2) := by decide +kernel
theorem dX2_sameFrom_55 : decode cX2_sameFrom 55 = .ok (.iload 5, 2) := by decide +kernel
theorem dX2_sameFrom_57 : decode cX2_sameFrom 57 = .ok (.if_icmp .ge 30, 3) := by decide +kernel
theorem dX2_sameFrom_60 : decode cX2_sameFrom 60 = .ok (.aload_n 0, 1) := by decide +kernel
theorem dX2_sameFrom_61 : decode cX2_sameFrom 61 = .ok (.getfield 7, 3) := by decide +kernel
theorem dX2_sameFrom_64 : decode cX2_sameFrom 64 = .ok (.iload_n 1, 1) := by decide +kernel
theorem dX2_sameFrom_65 : decode cX2_sameFrom 65 = .ok (.iload 6, 2) := by decide +kernel
theorem dX2_sameFrom_67 : decode cX2_sameFrom 67 = .ok (.iadd, 1) := by decide +kernel
theorem dX2_sameFrom_68 : decode cX2_sameFrom 68 = .ok (.baload, 1) := by decide +kernel
theorem dX2_sameFrom_69 : decode cX2_sameFrom 69 = .ok (.aload_n 0, 1) := by decide +kernel
theorem dX2_sameFrom_70 : decode cX2_sameFrom 70 = .ok (.getfield 7, 3) := by decide +kernel
theorem dX2_sameFrom_73 : decode cX2_sameFrom 73 = .ok (.iload_n 2, 1) := by decide +kernel
theorem dX2_sameFrom_74 : decode cX2_sameFrom 74 = .ok (.iload 6, 2) := by decide +kernel
theorem dX2_sameFrom_76 : decode cX2_sameFrom 76 = .ok (.iadd, 1) := by decide +kernel
theorem dX2_sameFrom_77 : decode cX2_sameFrom 77 = .ok (.baload, 1) := by decide +kernel
theorem dX2_sameFrom_78 : decode cX2_sameFrom 78 = .ok (.if_icmp .ne 9, 3) := by decide +kernel
theorem dX2_sameFrom_81 : decode cX2_sameFrom 81 = .ok (.iinc 6 1, 3) := by decide +kernel
theorem dX2_sameFrom_84 : decode cX2_sameFrom 84 = .ok (.goto (-31), 3) := by decide +kernel
theorem dX2_sameFrom_87 : decode cX2_sameFrom 87 = .ok (.iload 6, 2) := by decide +kernel
theorem dX2_sameFrom_89 : decode cX2_sameFrom 89 = .ok (.ireturn, 1) := by decide +kernel
theorem dX3_init_0 : decode cX3_init 0 = .ok (.aload_n 0, 1) := by decide +kernel
theorem dX3_init_1 : decode cX3_init 1 = .ok (.invokespecial 3, 3) := by decide +kernel
theorem dX3_init_4 : decode cX3_init 4 = .ok (.iload_n 1, 1) := by decide +kernel
theorem dX3_init_5 : decode cX3_init 5 = .ok (.iconst 0, 1) := by decide +kernel
theorem dX3_init_6 : decode cX3_init 6 = .ok (.invokestatic 9, 3) := by decide +kernel
theorem dX3_init_9 : decode cX3_init 9 = .ok (.istore_n 2, 1) := by decide +kernel
theorem dX3_init_10 : decode cX3_init 10 = .ok (.aload_n 0, 1) := by decide +kernel
theorem dX3_init_11 : decode cX3_init 11 = .ok (.iload_n 2, 1) := by decide +kernel
theorem dX3_init_12 : decode cX3_init 12 = .ok (.newarray .int, 2) := by decide +kernel
theorem dX3_init_14 : decode cX3_init 14 = .ok (.putfield 15, 3) := by decide +kernel
theorem dX3_init_17 : decode cX3_init 17 = .ok (.aload_n 0, 1) := by decide +kernel
theorem dX3_init_18 : decode cX3_init 18 = .ok (.iload_n 2, 1) := by decide +kernel
theorem dX3_init_19 : decode cX3_init 19 = .ok (.newarray .int, 2) := by decide +kernel
theorem dX3_init_21 : decode cX3_init 21 = .ok (.putfield 21, 3) := by decide +kernel
theorem dX3_init_24 : decode cX3_init 24 = .ok (.aload_n 0, 1) := by decide +kernel
theorem dX3_init_25 : decode cX3_init 25 = .ok (.iload_n 2, 1) := by decide +kernel
theorem dX3_init_26 : decode cX3_init 26 = .ok (.newarray .int, 2) := by decide +kernel
theorem dX3_init_28 : decode cX3_init 28 = .ok (.putfield 24, 3) := by decide +kernel
theorem dX3_init_31 : decode cX3_init 31 = .ok (.return_, 1) := by decide +kernel
theorem dX3_symbols_0 : decode cX3_symbols 0 = .ok (.aload_n 0, 1) := by decide +kernel
theorem dX3_symbols_1 : decode cX3_symbols 1 = .ok (.getfield 15, 3) := by decide +kernel
theorem dX3_symbols_4 : decode cX3_symbols 4 = .ok (.arraylength, 1) := by decide +kernel
theorem dX3_symbols_5 : decode cX3_symbols 5 = .ok (.ireturn, 1) := by decide +kernel
theorem dX3_forget_0 : decode cX3_forget 0 = .ok (.iconst 0, 1) := by decide +kernel
theorem dX3_forget_1 : decode cX3_forget 1 = .ok (.istore_n 1, 1) := by decide +kernel
theorem dX3_forget_2 : decode cX3_forget 2 = .ok (.iload_n 1, 1) := by decide +kernel
theorem dX3_forget_3 : decode cX3_forget 3 = .ok (.aload_n 0, 1) := by decide +kernel
theorem dX3_forget_4 : decode cX3_forget 4 = .ok (.getfield 15, 3) := by decide +kernel
theorem dX3_forget_7 : decode cX3_forget 7 = .ok (.arraylength, 1) := by decide +kernel
theorem dX3_forget_8 : decode cX3_forget 8 = .ok (.if_icmp .ge 16, 3) := by decide +kernel
theorem dX3_forget_11 : decode cX3_forget 11 = .ok (.aload_n 0, 1) := by decide +kernel
theorem dX3_forget_12 : decode cX3_forget 12 = .ok (.getfield 15, 3) := by decide +kernel
theorem dX3_forget_15 : decode cX3_forget 15 = .ok (.iload_n 1, 1) := by decide +kernel
theorem dX3_forget_16 : decode cX3_forget 16 = .ok (.iconst 0, 1) := by decide +kernel
theorem dX3_forget_17 : decode cX3_forget 17 = .ok (.iastore, 1) := by decide +kernel
theorem dX3_forget_18 : decode cX3_forget 18 = .ok (.iinc 1 1, 3) := by decide +kernel
theorem dX3_forget_21 : decode cX3_forget 21 = .ok (.goto (-19), 3) := by decide +kernel
theorem dX3_forget_24 : decode cX3_forget 24 = .ok (.return_, 1) := by decide +kernel
theorem dX3_count_0 : decode cX3_count 0 = .ok (.iload_n 1, 1) := by decide +kernel
theorem dX3_count_1 : decode cX3_count 1 = .ok (.ifCond .lt 22, 3) := by decide +kernel
theorem dX3_count_4 : decode cX3_count 4 = .ok (.iload_n 1, 1) := by decide +kernel
theorem dX3_count_5 : decode cX3_count 5 = .ok (.aload_n 0, 1) := by decide +kernel
theorem dX3_count_6 : decode cX3_count 6 = .ok (.getfield 15, 3) := by decide +kernel
theorem dX3_count_9 : decode cX3_count 9 = .ok (.arraylength, 1) := by decide +kernel
theorem dX3_count_10 : decode cX3_count 10 = .ok (.if_icmp .ge 13, 3) := by decide +kernel
theorem dX3_count_13 : decode cX3_count 13 = .ok (.aload_n 0, 1) := by decide +kernel
theorem dX3_count_14 : decode cX3_count 14 = .ok (.getfield 15, 3) := by decide +kernel
theorem dX3_count_17 : decode cX3_count 17 = .ok (.iload_n 1, 1) := by decide +kernel
theorem dX3_count_18 : decode cX3_count 18 = .ok (.dup2, 1) := by decide +kernel
theorem dX3_count_19 : decode cX3_count 19 = .ok (.iaload, 1) := by decide +kernel
theorem dX3_count_20 : decode cX3_count 20 = .ok (.iconst 1, 1) := by decide +kernel
theorem dX3_count_21 : decode cX3_count 21 = .ok (.iadd, 1) := by decide +kernel
theorem dX3_count_22 : decode cX3_count 22 = .ok (.iastore, 1) := by decide +kernel
theorem dX3_count_23 : decode cX3_count 23 = .ok (.return_, 1) := by decide +kernel
theorem dX3_countOf_0 : decode cX3_countOf 0 = .ok (.iload_n 1, 1) := by decide +kernel
theorem dX3_countOf_1 : decode cX3_countOf 1 = .ok (.ifCond .lt 21, 3) := by decide +kernel
theorem dX3_countOf_4 : decode cX3_countOf 4 = .ok (.iload_n 1, 1) := by decide +kernel
theorem dX3_countOf_5 : decode cX3_countOf 5 = .ok (.aload_n 0, 1) := by decide +kernel
theorem dX3_countOf_6 : decode cX3_countOf 6 = .ok (.getfield 15, 3) := by decide +kernel
theorem dX3_countOf_9 : decode cX3_countOf 9 = .ok (.arraylength, 1) := by decide +kernel
theorem dX3_countOf_10 : decode cX3_countOf 10 = .ok (.if_icmp .ge 12, 3) := by decide +kernel
theorem dX3_countOf_13 : decode cX3_countOf 13 = .ok (.aload_n 0, 1) := by decide +kernel
theorem dX3_countOf_14 : decode cX3_countOf 14 = .ok (.getfield 15, 3) := by decide +kernel
theorem dX3_countOf_17 : decode cX3_countOf 17 = .ok (.iload_n 1, 1) := by decide +kernel
theorem dX3_countOf_18 : decode cX3_countOf 18 = .ok (.iaload, 1) := by decide +kernel
theorem dX3_countOf_19 : decode cX3_countOf 19 = .ok (.goto 4, 3) := by decide +kernel
theorem dX3_countOf_22 : decode cX3_countOf 22 = .ok (.iconst 0, 1) := by decide +kernel
theorem dX3_countOf_23 : decode cX3_countOf 23 = .ok (.ireturn, 1) := by decide +kernel
theorem dX3_lengthOf_0 : decode cX3_lengthOf 0 = .ok (.iload_n 1, 1) := by decide +kernel
theorem dX3_lengthOf_1 : decode cX3_lengthOf 1 = .ok (.ifCond .lt 21, 3) := by decide +kernel
theorem dX3_lengthOf_4 : decode cX3_lengthOf 4 = .ok (.iload_n 1, 1) := by decide +kernel
theorem dX3_lengthOf_5 : decode cX3_lengthOf 5 = .ok (.aload_n 0, 1) := by decide +kernel
theorem dX3_lengthOf_6 : decode cX3_lengthOf 6 = .ok (.getfield 21, 3) := by decide +kernel
theorem dX3_lengthOf_9 : decode cX3_lengthOf 9 = .ok (.arraylength, 1) := by decide +kernel
theorem dX3_lengthOf_10 : decode cX3_lengthOf 10 = .ok (.if_icmp .ge 12, 3) := by decide +kernel
theorem dX3_lengthOf_13 : decode cX3_lengthOf 13 = .ok (.aload_n 0, 1) := by decide +kernel
theorem dX3_lengthOf_14 : decode cX3_lengthOf 14 = .ok (.getfield 21, 3) := by decide +kernel
theorem dX3_lengthOf_17 : decode cX3_lengthOf 17 = .ok (.iload_n 1, 1) := by decide +kernel
theorem dX3_lengthOf_18 : decode cX3_lengthOf 18 = .ok (.iaload, 1) := by decide +kernel
theorem dX3_lengthOf_19 : decode cX3_lengthOf 19 = .ok (.goto 4, 3) := by decide +kernel
theorem dX3_lengthOf_22 : decode cX3_lengthOf 22 = .ok (.iconst 0, 1) := by decide +kernel
theorem dX3_lengthOf_23 : decode cX3_lengthOf 23 = .ok (.ireturn, 1) := by decide +kernel
theorem dX3_turnedOf_0 : decode cX3_turnedOf 0 = .ok (.iload_n 1, 1) := by decide +kernel
theorem dX3_turnedOf_1 : decode cX3_turnedOf 1 = .ok (.ifCond .lt 21, 3) := by decide +kernel
theorem dX3_turnedOf_4 : decode cX3_turnedOf 4 = .ok (.iload_n 1, 1) := by decide +kernel
theorem dX3_turnedOf_5 : decode cX3_turnedOf 5 = .ok (.aload_n 0, 1) := by decide +kernel
theorem dX3_turnedOf_6 : decode cX3_turnedOf 6 = .ok (.getfield 24, 3) := by decide +kernel
theorem dX3_turnedOf_9 : decode cX3_turnedOf 9 = .ok (.arraylength, 1) := by decide +kernel
theorem dX3_turnedOf_10 : decode cX3_turnedOf 10 = .ok (.if_icmp .ge 12, 3) := by decide +kernel
theorem dX3_turnedOf_13 : decode cX3_turnedOf 13 = .ok (.aload_n 0, 1) := by decide +kernel
theorem dX3_turnedOf_14 : decode cX3_turnedOf 14 = .ok (.getfield 24, 3) := by decide +kernel
theorem dX3_turnedOf_17 : decode cX3_turnedOf 17 = .ok (.iload_n 1, 1) := by decide +kernel
theorem dX3_turnedOf_18 : decode cX3_turnedOf 18 = .ok (.iaload, 1) := by decide +kernel
theorem dX3_turnedOf_19 : decode cX3_turnedOf 19 = .ok (.goto 4, 3) := by decide +kernel
theorem dX3_turnedOf_22 : decode cX3_turnedOf 22 = .ok (.iconst 0, 1) := by decide +kernel
theorem dX3_turnedOf_23 : decode cX3_turnedOf 23 = .ok (.ireturn, 1) := by decide +kernel
theorem dX3_setLength_0 : decode cX3_setLength 0 = .ok (.iload_n 1, 1) := by decide +kernel
theorem dX3_setLength_1 : decode cX3_setLength 1 = .ok (.ifCond .lt 19, 3) := by decide +kernel
theorem dX3_setLength_4 : decode cX3_setLength 4 = .ok (.iload_n 1, 1) := by decide +kernel
theorem dX3_setLength_5 : decode cX3_setLength 5 = .ok (.aload_n 0, 1) := by decide +kernel
theorem dX3_setLength_6 : decode cX3_setLength 6 = .ok (.getfield 21, 3) := by decide +kernel
theorem dX3_setLength_9 : decode cX3_setLength 9 = .ok (.arraylength, 1) := by decide +kernel
theorem dX3_setLength_10 : decode cX3_setLength 10 = .ok (.if_icmp .ge 10, 3) := by decide +kernel
theorem dX3_setLength_13 : decode cX3_setLength 13 = .ok (.aload_n 0, 1) := by decide +kernel
theorem dX3_setLength_14 : decode cX3_setLength 14 = .ok (.getfield 21, 3) := by decide +kernel
theorem dX3_setLength_17 : decode cX3_setLength 17 = .ok (.iload_n 1, 1) := by decide +kernel
theorem dX3_setLength_18 : decode cX3_setLength 18 = .ok (.iload_n 2, 1) := by decide +kernel
theorem dX3_setLength_19 : decode cX3_setLength 19 = .ok (.iastore, 1) := by decide +kernel
theorem dX3_setLength_20 : decode cX3_setLength 20 = .ok (.return_, 1) := by decide +kernel
theorem dX3_makeCodes_0 : decode cX3_makeCodes 0 = .ok (.iconst 0, 1) := by decide +kernel
theorem dX3_makeCodes_1 : decode cX3_makeCodes 1 = .ok (.istore_n 1, 1) := by decide +kernel
theorem dX3_makeCodes_2 : decode cX3_makeCodes 2 = .ok (.iconst 1, 1) := by decide +kernel
theorem dX3_makeCodes_3 : decode cX3_makeCodes 3 = .ok (.istore_n 2, 1) := by decide +kernel
theorem dX3_makeCodes_4 : decode cX3_makeCodes 4 = .ok (.iload_n 2, 1) := by decide +kernel
theorem dX3_makeCodes_5 : decode cX3_makeCodes 5 = .ok (.bipush 15, 2) := by decide +kernel
theorem dX3_makeCodes_7 : decode cX3_makeCodes 7 = .ok (.if_icmp .gt 63, 3) := by decide +kernel
theorem dX3_makeCodes_10 : decode cX3_makeCodes 10 = .ok (.iconst 0, 1) := by decide +kernel
theorem dX3_makeCodes_11 : decode cX3_makeCodes 11 = .ok (.istore_n 3, 1) := by decide +kernel
theorem dX3_makeCodes_12 : decode cX3_makeCodes 12 = .ok (.iload_n 3, 1) := by decide +kernel
theorem dX3_makeCodes_13 : decode cX3_makeCodes 13 = .ok (.aload_n 0, 1) := by decide +kernel
theorem dX3_makeCodes_14 : decode cX3_makeCodes 14 = .ok (.getfield 21, 3) := by decide +kernel
theorem dX3_makeCodes_17 : decode cX3_makeCodes 17 = .ok (.arraylength, 1) := by decide +kernel
theorem dX3_makeCodes_18 : decode cX3_makeCodes 18 = .ok (.if_icmp .ge 42, 3) := by decide +kernel
theorem dX3_makeCodes_21 : decode cX3_makeCodes 21 = .ok (.iload_n 3, 1) := by decide +kernel
theorem dX3_makeCodes_22 : decode cX3_makeCodes 22 = .ok (.aload_n 0, 1) := by decide +kernel
theorem dX3_makeCodes_23 : decode cX3_makeCodes 23 = .ok (.getfield 24, 3) := by decide +kernel
theorem dX3_makeCodes_26 : decode cX3_makeCodes 26 = .ok (.arraylength, 1) := by decide +kernel
theorem dX3_makeCodes_27 : decode cX3_makeCodes 27 = .ok (.if_icmp .ge 33, 3) := by decide +kernel
theorem dX3_makeCodes_30 : decode cX3_makeCodes 30 = .ok (.aload_n 0, 1) := by decide +kernel
theorem dX3_makeCodes_31 : decode cX3_makeCodes 31 = .ok (.getfield 21, 3) := by decide +kernel
theorem dX3_makeCodes_34 : decode cX3_makeCodes 34 = .ok (.iload_n 3, 1) := by decide +kernel
theorem dX3_makeCodes_35 : decode cX3_makeCodes 35 = .ok (.iaload, 1) := by decide +kernel
theorem dX3_makeCodes_36 : decode cX3_makeCodes 36 = .ok (.iload_n 2, 1) := by decide +kernel
theorem dX3_makeCodes_37 : decode cX3_makeCodes 37 = .ok (.if_icmp .ne 17, 3) := by decide +kernel
theorem dX3_makeCodes_40 : decode cX3_makeCodes 40 = .ok (.aload_n 0, 1) := by decide +kernel
theorem dX3_makeCodes_41 : decode cX3_makeCodes 41 = .ok (.getfield 24, 3) := by decide +kernel
theorem dX3_makeCodes_44 : decode cX3_makeCodes 44 = .ok (.iload_n 3, 1) := by decide +kernel
theorem dX3_makeCodes_45 : decode cX3_makeCodes 45 = .ok (.iload_n 1, 1) := by decide +kernel
theorem dX3_makeCodes_46 : decode cX3_makeCodes 46 = .ok (.iload_n 2, 1) := by decide +kernel
theorem dX3_makeCodes_47 : decode cX3_makeCodes 47 = .ok (.invokestatic 27, 3) := by decide +kernel
theorem dX3_makeCodes_50 : decode cX3_makeCodes 50 = .ok (.iastore, 1) := by decide +kernel
theorem dX3_makeCodes_51 : decode cX3_makeCodes 51 = .ok (.iinc 1 1, 3) := by decide +kernel
theorem dX3_makeCodes_54 : decode cX3_makeCodes 54 = .ok (.iinc 3 1, 3) := by decide +kernel
theorem dX3_makeCodes_57 : decode cX3_makeCodes 57 = .ok (.goto (-45), 3) := by decide +kernel
theorem dX3_makeCodes_60 : decode cX3_makeCodes 60 = .ok (.iload_n 1, 1) := by decide +kernel
theorem dX3_makeCodes_61 : decode cX3_makeCodes 61 = .ok (.iconst 1, 1) := by decide +kernel
theorem dX3_makeCodes_62 : decode cX3_makeCodes 62 = .ok (.ishl, 1) := by decide +kernel
theorem dX3_makeCodes_63 : decode cX3_makeCodes 63 = .ok (.istore_n 1, 1) := by decide +kernel
theorem dX3_makeCodes_64 : decode cX3_makeCodes 64 = .ok (.iinc 2 1, 3) := by decide +kernel
theorem dX3_makeCodes_67 : decode cX3_makeCodes 67 = .ok (.goto (-63), 3) := by decide +kernel
theorem dX3_makeCodes_70 : decode cX3_makeCodes 70 = .ok (.return_, 1) := by decide +kernel
theorem dX3_turn_0 : decode cX3_turn 0 = .ok (.iconst 0, 1) := by decide +kernel
theorem dX3_turn_1 : decode cX3_turn 1 = .ok (.istore_n 2, 1) := by decide +kernel
theorem dX3_turn_2 : decode cX3_turn 2 = .ok (.iconst 0, 1) := by decide +kernel
theorem dX3_turn_3 : decode cX3_turn 3 = .ok (.istore_n 3, 1) := by decide +kernel
theorem dX3_turn_4 : decode cX3_turn 4 = .ok (.iload_n 3, 1) := by decide +kernel
theorem dX3_turn_5 : decode cX3_turn 5 = .ok (.iload_n 1, 1) := by decide +kernel
theorem dX3_turn_6 : decode cX3_turn 6 = .ok (.if_icmp .ge 19, 3) := by decide +kernel
theorem dX3_turn_9 : decode cX3_turn 9 = .ok (.iload_n 2, 1) := by decide +kernel
theorem dX3_turn_10 : decode cX3_turn 10 = .ok (.iconst 1, 1) := by decide +kernel
theorem dX3_turn_11 : decode cX3_turn 11 = .ok (.ishl, 1) := by decide +kernel
theorem dX3_turn_12 : decode cX3_turn 12 = .ok (.iload_n 0, 1) := by decide +kernel
theorem dX3_turn_13 : decode cX3_turn 13 = .ok (.iload_n 3, 1) := by decide +kernel
theorem dX3_turn_14 : decode cX3_turn 14 = .ok (.ishr, 1) := by decide +kernel
theorem dX3_turn_15 : decode cX3_turn 15 = .ok (.iconst 1, 1) := by decide +kernel
theorem dX3_turn_16 : decode cX3_turn 16 = .ok (.iand, 1) := by decide +kernel
theorem dX3_turn_17 : decode cX3_turn 17 = .ok (.ior, 1) := by decide +kernel
theorem dX3_turn_18 : decode cX3_turn 18 = .ok (.istore_n 2, 1) := by decide +kernel
theorem dX3_turn_19 : decode cX3_turn 19 = .ok (.iinc 3 1, 3) := by decide +kernel
theorem dX3_turn_22 : decode cX3_turn 22 = .ok (.goto (-18), 3) := by decide +kernel
theorem dX3_turn_25 : decode cX3_turn 25 = .ok (.iload_n 2, 1) := by decide +kernel
theorem dX3_turn_26 : decode cX3_turn 26 = .ok (.ireturn, 1) := by decide +kernel
theorem dX3_used_0 : decode cX3_used 0 = .ok (.aload_n 0, 1) := by decide +kernel
theorem dX3_used_1 : decode cX3_used 1 = .ok (.getfield 21, 3) := by decide +kernel
theorem dX3_used_4 : decode cX3_used 4 = .ok (.arraylength, 1) := by decide +kernel
theorem dX3_used_5 : decode cX3_used 5 = .ok (.istore_n 1, 1) := by decide +kernel
theorem dX3_used_6 : decode cX3_used 6 = .ok (.iload_n 1, 1) := by decide +kernel
theorem dX3_used_7 : decode cX3_used 7 = .ok (.ifCond .le 20, 3) := by decide +kernel
theorem dX3_used_10 : decode cX3_used 10 = .ok (.aload_n 0, 1) := by decide +kernel
theorem dX3_used_11 : decode cX3_used 11 = .ok (.getfield 21, 3) := by decide +kernel
theorem dX3_used_14 : decode cX3_used 14 = .ok (.iload_n 1, 1) := by decide +kernel
theorem dX3_used_15 : decode cX3_used 15 = .ok (.iconst 1, 1) := by decide +kernel
theorem dX3_used_16 : decode cX3_used 16 = .ok (.isub, 1) := by decide +kernel
theorem dX3_used_17 : decode cX3_used 17 = .ok (.iaload, 1) := by decide +kernel
theorem dX3_used_18 : decode cX3_used 18 = .ok (.ifCond .ne 9, 3) := by decide +kernel
theorem dX3_used_21 : decode cX3_used 21 = .ok (.iinc 1 (-1), 3) := by decide +kernel
theorem dX3_used_24 : decode cX3_used 24 = .ok (.goto (-18), 3) := by decide +kernel
theorem dX3_used_27 : decode cX3_used 27 = .ok (.iload_n 1, 1) := by decide +kernel
theorem dX3_used_28 : decode cX3_used 28 = .ok (.ireturn, 1) := by decide +kernel
theorem dX3_bitsFor_0 : decode cX3_bitsFor 0 = .ok (.iconst 0, 1) := by decide +kernel
theorem dX3_bitsFor_1 : decode cX3_bitsFor 1 = .ok (.istore_n 2, 1) := by decide +kernel
theorem dX3_bitsFor_2 : decode cX3_bitsFor 2 = .ok (.iconst 0, 1) := by decide +kernel
theorem dX3_bitsFor_3 : decode cX3_bitsFor 3 = .ok (.istore_n 3, 1) := by decide +kernel
theorem dX3_bitsFor_4 : decode cX3_bitsFor 4 = .ok (.iload_n 3, 1) := by decide +kernel
theorem dX3_bitsFor_5 : decode cX3_bitsFor 5 = .ok (.aload_n 0, 1) := by decide +kernel
theorem dX3_bitsFor_6 : decode cX3_bitsFor 6 = .ok (.getfield 21, 3) := by decide +kernel
theorem dX3_bitsFor_9 : decode cX3_bitsFor 9 = .ok (.arraylength, 1) := by decide +kernel
theorem dX3_bitsFor_10 : decode cX3_bitsFor 10 = .ok (.if_icmp .ge 24, 3) := by decide +kernel
theorem dX3_bitsFor_13 : decode cX3_bitsFor 13 = .ok (.iload_n 2, 1) := by decide +kernel
theorem dX3_bitsFor_14 : decode cX3_bitsFor 14 = .ok (.aload_n 0, 1) := by decide +kernel
theorem dX3_bitsFor_15 : decode cX3_bitsFor 15 = .ok (.getfield 21, 3) := by decide +kernel
theorem dX3_bitsFor_18 : decode cX3_bitsFor 18 = .ok (.iload_n 3, 1) := by decide +kernel
theorem dX3_bitsFor_19 : decode cX3_bitsFor 19 = .ok (.iaload, 1) := by decide +kernel
theorem dX3_bitsFor_20 : decode cX3_bitsFor 20 = .ok (.aload_n 1, 1) := by decide +kernel
theorem dX3_bitsFor_21 : decode cX3_bitsFor 21 = .ok (.iload_n 3, 1) := by decide +kernel
theorem dX3_bitsFor_22 : decode cX3_bitsFor 22 = .ok (.invokevirtual 30, 3) := by decide +kernel
theorem dX3_bitsFor_25 : decode cX3_bitsFor 25 = .ok (.imul, 1) := by decide +kernel
theorem dX3_bitsFor_26 : decode cX3_bitsFor 26 = .ok (.iadd, 1) := by decide +kernel
theorem dX3_bitsFor_27 : decode cX3_bitsFor 27 = .ok (.istore_n 2, 1) := by decide +kernel
theorem dX3_bitsFor_28 : decode cX3_bitsFor 28 = .ok (.iinc 3 1, 3) := by decide +kernel
theorem dX3_bitsFor_31 : decode cX3_bitsFor 31 = .ok (.goto (-27), 3) := by decide +kernel
theorem dX3_bitsFor_34 : decode cX3_bitsFor 34 = .ok (.iload_n 2, 1) := by decide +kernel
theorem dX3_bitsFor_35 : decode cX3_bitsFor 35 = .ok (.ireturn, 1) := by decide +kernel
theorem dX4_init_0 : decode cX4_init 0 = .ok (.aload_n 0, 1) := by decide +kernel
theorem dX4_init_1 : decode cX4_init 1 = .ok (.invokespecial 3, 3) := by decide +kernel
theorem dX4_init_4 : decode cX4_init 4 = .ok (.aload_n 0, 1) := by decide +kernel
theorem dX4_init_5 : decode cX4_init 5 = .ok (.new 9, 3) := by decide +kernel
theorem dX4_init_8 : decode cX4_init 8 = .ok (.dup, 1) := by decide +kernel
theorem dX4_init_9 : decode cX4_init 9 = .ok (.ldc 11, 2) := by decide +kernel
theorem dX4_init_11 : decode cX4_init 11 = .ok (.invokespecial 12, 3) := by decide +kernel
theorem dX4_init_14 : decode cX4_init 14 = .ok (.putfield 15, 3) := by decide +kernel
theorem dX4_init_17 : decode cX4_init 17 = .ok (.aload_n 0, 1) := by decide +kernel
theorem dX4_init_18 : decode cX4_init 18 = .ok (.bipush 65, 2) := by decide +kernel
theorem dX4_init_20 : decode cX4_init 20 = .ok (.newarray .int, 2) := by decide +kernel
theorem dX4_init_22 : decode cX4_init 22 = .ok (.putfield 21, 3) := by decide +kernel
theorem dX4_init_25 : decode cX4_init 25 = .ok (.return_, 1) := by decide +kernel
theorem dX4_bytes_0 : decode cX4_bytes 0 = .ok (.aload_n 0, 1) := by decide +kernel
theorem dX4_bytes_1 : decode cX4_bytes 1 = .ok (.getfield 15, 3) := by decide +kernel
theorem dX4_bytes_4 : decode cX4_bytes 4 = .ok (.areturn, 1) := by decide +kernel
theorem dX4_room_0 : decode cX4_room 0 = .ok (.aload_n 0, 1) := by decide +kernel
theorem dX4_room_1 : decode cX4_room 1 = .ok (.getfield 15, 3) := by decide +kernel
theorem dX4_room_4 : decode cX4_room 4 = .ok (.invokevirtual 25, 3) := by decide +kernel
theorem dX4_room_7 : decode cX4_room 7 = .ok (.ireturn, 1) := by decide +kernel
theorem dX4_start_0 : decode cX4_start 0 = .ok (.iload_n 1, 1) := by decide +kernel
theorem dX4_start_1 : decode cX4_start 1 = .ok (.ifCond .lt 21, 3) := by decide +kernel
theorem dX4_start_4 : decode cX4_start 4 = .ok (.iload_n 1, 1) := by decide +kernel
theorem dX4_start_5 : decode cX4_start 5 = .ok (.aload_n 0, 1) := by decide +kernel
theorem dX4_start_6 : decode cX4_start 6 = .ok (.getfield 21, 3) := by decide +kernel
theorem dX4_start_9 : decode cX4_start 9 = .ok (.arraylength, 1) := by decide +kernel
theorem dX4_start_10 : decode cX4_start 10 = .ok (.if_icmp .ge 12, 3) := by decide +kernel
theorem dX4_start_13 : decode cX4_start 13 = .ok (.aload_n 0, 1) := by decide +kernel
theorem dX4_start_14 : decode cX4_start 14 = .ok (.getfield 21, 3) := by decide +kernel
theorem dX4_start_17 : decode cX4_start 17 = .ok (.iload_n 1, 1) := by decide +kernel
theorem dX4_start_18 : decode cX4_start 18 = .ok (.iaload, 1) := by decide +kernel
theorem dX4_start_19 : decode cX4_start 19 = .ok (.goto 4, 3) := by decide +kernel
theorem dX4_start_22 : decode cX4_start 22 = .ok (.iconst 0, 1) := by decide +kernel
theorem dX4_start_23 : decode cX4_start 23 = .ok (.ireturn, 1) := by decide +kernel
theorem dX4_count_0 : decode cX4_count 0 = .ok (.aload_n 0, 1) := by decide +kernel
theorem dX4_count_1 : decode cX4_count 1 = .ok (.iload_n 1, 1) := by decide +kernel
theorem dX4_count_2 : decode cX4_count 2 = .ok (.iconst 1, 1) := by decide +kernel
theorem dX4_count_3 : decode cX4_count 3 = .ok (.iadd, 1) := by decide +kernel
theorem dX4_count_4 : decode cX4_count 4 = .ok (.invokevirtual 29, 3) := by decide +kernel
theorem dX4_count_7 : decode cX4_count 7 = .ok (.aload_n 0, 1) := by decide +kernel
theorem dX4_count_8 : decode cX4_count 8 = .ok (.iload_n 1, 1) := by decide +kernel
theorem dX4_count_9 : decode cX4_count 9 = .ok (.invokevirtual 29, 3) := by decide +kernel
theorem dX4_count_12 : decode cX4_count 12 = .ok (.isub, 1) := by decide +kernel
theorem dX4_count_13 : decode cX4_count 13 = .ok (.ireturn, 1) := by decide +kernel
theorem dX4_set_0 : decode cX4_set 0 = .ok (.aload_n 0, 1) := by decide +kernel
theorem dX4_set_1 : decode cX4_set 1 = .ok (.getfield 15, 3) := by decide +kernel
theorem dX4_set_4 : decode cX4_set 4 = .ok (.iload_n 1, 1) := by decide +kernel
theorem dX4_set_5 : decode cX4_set 5 = .ok (.iload_n 2, 1) := by decide +kernel
theorem dX4_set_6 : decode cX4_set 6 = .ok (.invokevirtual 33, 3) := by decide +kernel
theorem dX4_set_9 : decode cX4_set 9 = .ok (.return_, 1) := by decide +kernel
theorem dX4_open_0 : decode cX4_open 0 = .ok (.aload_n 0, 1) := by decide +kernel
theorem dX4_open_1 : decode cX4_open 1 = .ok (.iload_n 1, 1) := by decide +kernel
theorem dX4_open_2 : decode cX4_open 2 = .ok (.iconst 1, 1) := by decide +kernel
theorem dX4_open_3 : decode cX4_open 3 = .ok (.iadd, 1) := by decide +kernel
theorem dX4_open_4 : decode cX4_open 4 = .ok (.invokevirtual 29, 3) := by decide +kernel
theorem dX4_open_7 : decode cX4_open 7 = .ok (.istore_n 3, 1) := by decide +kernel
theorem dX4_open_8 : decode cX4_open 8 = .ok (.aload_n 0, 1) := by decide +kernel
theorem dX4_open_9 : decode cX4_open 9 = .ok (.getfield 15, 3) := by decide +kernel
theorem dX4_open_12 : decode cX4_open 12 = .ok (.iload_n 3, 1) := by decide +kernel
theorem dX4_open_13 : decode cX4_open 13 = .ok (.iload_n 2, 1) := by decide +kernel
theorem dX4_open_14 : decode cX4_open 14 = .ok (.invokevirtual 37, 3) := by decide +kernel
theorem dX4_open_17 : decode cX4_open 17 = .ok (.aload_n 0, 1) := by decide +kernel
theorem dX4_open_18 : decode cX4_open 18 = .ok (.iload_n 1, 1) := by decide +kernel
theorem dX4_open_19 : decode cX4_open 19 = .ok (.iload_n 2, 1) := by decide +kernel
theorem dX4_open_20 : decode cX4_open 20 = .ok (.invokevirtual 40, 3) := by decide +kernel
theorem dX4_open_23 : decode cX4_open 23 = .ok (.iload_n 3, 1) := by decide +kernel
theorem dX4_open_24 : decode cX4_open 24 = .ok (.ireturn, 1) := by decide +kernel
theorem dX4_drop_0 : decode cX4_drop 0 = .ok (.aload_n 0, 1) := by decide +kernel
theorem dX4_drop_1 : decode cX4_drop 1 = .ok (.iload_n 1, 1) := by decide +kernel
theorem dX4_drop_2 : decode cX4_drop 2 = .ok (.invokevirtual 43, 3) := by decide +kernel
theorem dX4_drop_5 : decode cX4_drop 5 = .ok (.istore_n 2, 1) := by decide +kernel
theorem dX4_drop_6 : decode cX4_drop 6 = .ok (.aload_n 0, 1) := by decide +kernel
theorem dX4_drop_7 : decode cX4_drop 7 = .ok (.getfield 15, 3) := by decide +kernel
theorem dX4_drop_10 : decode cX4_drop 10 = .ok (.aload_n 0, 1) := by decide +kernel
theorem dX4_drop_11 : decode cX4_drop 11 = .ok (.iload_n 1, 1) := by decide +kernel
theorem dX4_drop_12 : decode cX4_drop 12 = .ok (.invokevirtual 29, 3) := by decide +kernel
theorem dX4_drop_15 : decode cX4_drop 15 = .ok (.iload_n 2, 1) := by decide +kernel
theorem dX4_drop_16 : decode cX4_drop 16 = .ok (.invokevirtual 46, 3) := by decide +kernel
theorem dX4_drop_19 : decode cX4_drop 19 = .ok (.aload_n 0, 1) := by decide +kernel
theorem dX4_drop_20 : decode cX4_drop 20 = .ok (.iload_n 1, 1) := by decide +kernel
theorem dX4_drop_21 : decode cX4_drop 21 = .ok (.iload_n 2, 1) := by decide +kernel
theorem dX4_drop_22 : decode cX4_drop 22 = .ok (.ineg, 1) := by decide +kernel
theorem dX4_drop_23 : decode cX4_drop 23 = .ok (.invokevirtual 40, 3) := by decide +kernel
theorem dX4_drop_26 : decode cX4_drop 26 = .ok (.return_, 1) := by decide +kernel
theorem dX4_shiftBehind_0 : decode cX4_shiftBehind 0 = .ok (.iload_n 1, 1) := by decide +kernel
theorem dX4_shiftBehind_1 : decode cX4_shiftBehind 1 = .ok (.iconst 0, 1) := by decide +kernel
theorem dX4_shiftBehind_2 : decode cX4_shiftBehind 2 = .ok (.invokestatic 49, 3) := by decide +kernel
theorem dX4_shiftBehind_5 : decode cX4_shiftBehind 5 = .ok (.iconst 1, 1) := by decide +kernel
theorem dX4_shiftBehind_6 : decode cX4_shiftBehind 6 = .ok (.iadd, 1) := by decide +kernel
theorem dX4_shiftBehind_7 : decode cX4_shiftBehind 7 = .ok (.istore_n 3, 1) := by decide +kernel
theorem dX4_shiftBehind_8 : decode cX4_shiftBehind 8 = .ok (.iload_n 3, 1) := by decide +kernel
theorem dX4_shiftBehind_9 : decode cX4_shiftBehind 9 = .ok (.aload_n 0, 1) := by decide +kernel
theorem dX4_shiftBehind_10 : decode cX4_shiftBehind 10 = .ok (.getfield 21, 3) := by decide +kernel
theorem dX4_shiftBehind_13 : decode cX4_shiftBehind 13 = .ok (.arraylength, 1) := by decide +kernel
theorem dX4_shiftBehind_14 : decode cX4_shiftBehind 14 = .ok (.if_icmp .ge 19, 3) := by decide +kernel
theorem dX4_shiftBehind_17 : decode cX4_shiftBehind 17 = .ok (.aload_n 0, 1) := by decide +kernel
theorem dX4_shiftBehind_18 : decode cX4_shiftBehind 18 = .ok (.getfield 21, 3) := by decide +kernel
theorem dX4_shiftBehind_21 : decode cX4_shiftBehind 21 = .ok (.iload_n 3, 1) := by decide +kernel
theorem dX4_shiftBehind_22 : decode cX4_shiftBehind 22 = .ok (.dup2, 1) := by decide +kernel
theorem dX4_shiftBehind_23 : decode cX4_shiftBehind 23 = .ok (.iaload, 1) := by decide +kernel
theorem dX4_shiftBehind_24 : decode cX4_shiftBehind 24 = .ok (.iload_n 2, 1) := by decide +kernel
theorem dX4_shiftBehind_25 : decode cX4_shiftBehind 25 = .ok (.iadd, 1) := by decide +kernel
theorem dX4_shiftBehind_26 : decode cX4_shiftBehind 26 = .ok (.iastore, 1) := by decide +kernel
theorem dX4_shiftBehind_27 : decode cX4_shiftBehind 27 = .ok (.iinc 3 1, 3) := by decide +kernel
theorem dX4_shiftBehind_30 : decode cX4_shiftBehind 30 = .ok (.goto (-22), 3) := by decide +kernel
theorem dX4_shiftBehind_33 : decode cX4_shiftBehind 33 = .ok (.return_, 1) := by decide +kernel
theorem dX4_twin_0 : decode cX4_twin 0 = .ok (.aload_n 0, 1) := by decide +kernel
theorem dX4_twin_1 : decode cX4_twin 1 = .ok (.iload_n 1, 1) := by decide +kernel
theorem dX4_twin_2 : decode cX4_twin 2 = .ok (.invokevirtual 43, 3) := by decide +kernel
theorem dX4_twin_5 : decode cX4_twin 5 = .ok (.istore_n 2, 1) := by decide +kernel
theorem dX4_twin_6 : decode cX4_twin 6 = .ok (.iload_n 2, 1) := by decide +kernel
theorem dX4_twin_7 : decode cX4_twin 7 = .ok (.ifCond .ne 5, 3) := by decide +kernel
theorem dX4_twin_10 : decode cX4_twin 10 = .ok (.iconst (-1), 1) := by decide +kernel
theorem dX4_twin_11 : decode cX4_twin 11 = .ok (.ireturn, 1) := by decide +kernel
theorem dX4_twin_12 : decode cX4_twin 12 = .ok (.iconst 0, 1) := by decide +kernel
theorem dX4_twin_13 : decode cX4_twin 13 = .ok (.istore_n 3, 1) := by decide +kernel
theorem dX4_twin_14 : decode cX4_twin 14 = .ok (.iload_n 3, 1) := by decide +kernel
theorem dX4_twin_15 : decode cX4_twin 15 = .ok (.iload_n 1, 1) := by decide +kernel
theorem dX4_twin_16 : decode cX4_twin 16 = .ok (.if_icmp .ge 42, 3) := by decide +kernel
theorem dX4_twin_19 : decode cX4_twin 19 = .ok (.aload_n 0, 1) := by decide +kernel
theorem dX4_twin_20 : decode cX4_twin 20 = .ok (.iload_n 3, 1) := by decide +kernel
theorem dX4_twin_21 : decode cX4_twin 21 = .ok (.invokevirtual 43, 3) := by decide +kernel
theorem dX4_twin_24 : decode cX4_twin 24 = .ok (.iload_n 2, 1) := by decide +kernel
theorem dX4_twin_25 : decode cX4_twin 25 = .ok (.if_icmp .ne 27, 3) := by decide +kernel
theorem dX4_twin_28 : decode cX4_twin 28 = .ok (.aload_n 0, 1) := by decide +kernel
theorem dX4_twin_29 : decode cX4_twin 29 = .ok (.getfield 15, 3) := by decide +kernel
theorem dX4_twin_32 : decode cX4_twin 32 = .ok (.aload_n 0, 1) := by decide +kernel
theorem dX4_twin_33 : decode cX4_twin 33 = .ok (.iload_n 3, 1) := by decide +kernel
theorem dX4_twin_34 : decode cX4_twin 34 = .ok (.invokevirtual 29, 3) := by decide +kernel
theorem dX4_twin_37 : decode cX4_twin 37 = .ok (.aload_n 0, 1) := by decide +kernel
theorem dX4_twin_38 : decode cX4_twin 38 = .ok (.iload_n 1, 1) := by decide +kernel
theorem dX4_twin_39 : decode cX4_twin 39 = .ok (.invokevirtual 29, 3) := by decide +kernel
theorem dX4_twin_42 : decode cX4_twin 42 = .ok (.iload_n 2, 1) := by decide +kernel
theorem dX4_twin_43 : decode cX4_twin 43 = .ok (.invokevirtual 55, 3) := by decide +kernel
theorem dX4_twin_46 : decode cX4_twin 46 = .ok (.iload_n 2, 1) := by decide +kernel
theorem dX4_twin_47 : decode cX4_twin 47 = .ok (.if_icmp .ne 5, 3) := by decide +kernel
theorem dX4_twin_50 : decode cX4_twin 50 = .ok (.iload_n 3, 1) := by decide +kernel
theorem dX4_twin_51 : decode cX4_twin 51 = .ok (.ireturn, 1) := by decide +kernel
theorem dX4_twin_52 : decode cX4_twin 52 = .ok (.iinc 3 1, 3) := by decide +kernel
theorem dX4_twin_55 : decode cX4_twin 55 = .ok (.goto (-41), 3) := by decide +kernel
theorem dX4_twin_58 : decode cX4_twin 58 = .ok (.iconst (-1), 1) := by decide +kernel
theorem dX4_twin_59 : decode cX4_twin 59 = .ok (.ireturn, 1) := by decide +kernel
theorem dX5_init_0 : decode cX5_init 0 = .ok (.aload_n 0, 1) := by decide +kernel
theorem dX5_init_1 : decode cX5_init 1 = .ok (.invokespecial 3, 3) := by decide +kernel
theorem dX5_init_4 : decode cX5_init 4 = .ok (.aload_n 0, 1) := by decide +kernel
theorem dX5_init_5 : decode cX5_init 5 = .ok (.sipush 512, 3) := by decide +kernel
theorem dX5_init_8 : decode cX5_init 8 = .ok (.newarray .int, 2) := by decide +kernel
theorem dX5_init_10 : decode cX5_init 10 = .ok (.putfield 11, 3) := by decide +kernel
theorem dX5_init_13 : decode cX5_init 13 = .ok (.aload_n 0, 1) := by decide +kernel
theorem dX5_init_14 : decode cX5_init 14 = .ok (.bipush 80, 2) := by decide +kernel
theorem dX5_init_16 : decode cX5_init 16 = .ok (.newarray .int, 2) := by decide +kernel
theorem dX5_init_18 : decode cX5_init 18 = .ok (.putfield 15, 3) := by decide +kernel
theorem dX5_init_21 : decode cX5_init 21 = .ok (.aload_n 0, 1) := by decide +kernel
theorem dX5_init_22 : decode cX5_init 22 = .ok (.bipush 64, 2) := by decide +kernel
theorem dX5_init_24 : decode cX5_init 24 = .ok (.newarray .int, 2) := by decide +kernel
theorem dX5_init_26 : decode cX5_init 26 = .ok (.putfield 18, 3) := by decide +kernel
theorem dX5_init_29 : decode cX5_init 29 = .ok (.aload_n 0, 1) := by decide +kernel
theorem dX5_init_30 : decode cX5_init 30 = .ok (.bipush 64, 2) := by decide +kernel
theorem dX5_init_32 : decode cX5_init 32 = .ok (.newarray .int, 2) := by decide +kernel
theorem dX5_init_34 : decode cX5_init 34 = .ok (.putfield 21, 3) := by decide +kernel
theorem dX5_init_37 : decode cX5_init 37 = .ok (.aload_n 0, 1) := by decide +kernel
theorem dX5_init_38 : decode cX5_init 38 = .ok (.bipush 12, 2) := by decide +kernel
theorem dX5_init_40 : decode cX5_init 40 = .ok (.invokevirtual 24, 3) := by decide +kernel
theorem dX5_init_43 : decode cX5_init 43 = .ok (.iconst 0, 1) := by decide +kernel
theorem dX5_init_44 : decode cX5_init 44 = .ok (.istore_n 1, 1) := by decide +kernel
theorem dX5_init_45 : decode cX5_init 45 = .ok (.iload_n 1, 1) := by decide +kernel
theorem dX5_init_46 : decode cX5_init 46 = .ok (.bipush 64, 2) := by decide +kernel
theorem dX5_init_48 : decode cX5_init 48 = .ok (.if_icmp .ge 17, 3) := by decide +kernel
theorem dX5_init_51 : decode cX5_init 51 = .ok (.aload_n 0, 1) := by decide +kernel
theorem dX5_init_52 : decode cX5_init 52 = .ok (.iload_n 1, 1) := by decide +kernel
theorem dX5_init_53 : decode cX5_init 53 = .ok (.iconst 4, 1) := by decide +kernel
theorem dX5_init_54 : decode cX5_init 54 = .ok (.bipush (-2), 2) := by decide +kernel
theorem dX5_init_56 : decode cX5_init 56 = .ok (.invokevirtual 28, 3) := by decide +kernel
theorem dX5_init_59 : decode cX5_init 59 = .ok (.iinc 1 1, 3) := by decide +kernel
theorem dX5_init_62 : decode cX5_init 62 = .ok (.goto (-17), 3) := by decide +kernel
theorem dX5_init_65 : decode cX5_init 65 = .ok (.return_, 1) := by decide +kernel
theorem dX5_begin_0 : decode cX5_begin 0 = .ok (.aload_n 0, 1) := by decide +kernel
theorem dX5_begin_1 : decode cX5_begin 1 = .ok (.iload_n 1, 1) := by decide +kernel
theorem dX5_begin_2 : decode cX5_begin 2 = .ok (.putfield 32, 3) := by decide +kernel
theorem dX5_begin_5 : decode cX5_begin 5 = .ok (.aload_n 0, 1) := by decide +kernel
theorem dX5_begin_6 : decode cX5_begin 6 = .ok (.iconst 0, 1) := by decide +kernel
theorem dX5_begin_7 : decode cX5_begin 7 = .ok (.putfield 36, 3) := by decide +kernel
theorem dX5_begin_10 : decode cX5_begin 10 = .ok (.aload_n 0, 1) := by decide +kernel
theorem dX5_begin_11 : decode cX5_begin 11 = .ok (.iconst 0, 1) := by decide +kernel
theorem dX5_begin_12 : decode cX5_begin 12 = .ok (.putfield 39, 3) := by decide +kernel
theorem dX5_begin_15 : decode cX5_begin 15 = .ok (.return_, 1) := by decide +kernel
theorem dX5_log_0 : decode cX5_log 0 = .ok (.aload_n 0, 1) := by decide +kernel
theorem dX5_log_1 : decode cX5_log 1 = .ok (.getfield 32, 3) := by decide +kernel
theorem dX5_log_4 : decode cX5_log 4 = .ok (.ireturn, 1) := by decide +kernel
theorem dX5_blockBytes_0 : decode cX5_blockBytes 0 = .ok (.iconst 1, 1) := by decide +kernel
theorem dX5_blockBytes_1 : decode cX5_blockBytes 1 = .ok (.aload_n 0, 1) := by decide +kernel
theorem dX5_blockBytes_2 : decode cX5_blockBytes 2 = .ok (.getfield 32, 3) := by decide +kernel
theorem dX5_blockBytes_5 : decode cX5_blockBytes 5 = .ok (.ishl, 1) := by decide +kernel
theorem dX5_blockBytes_6 : decode cX5_blockBytes 6 = .ok (.ireturn, 1) := by decide +kernel
theorem dX5_fact_0 : decode cX5_fact 0 = .ok (.iload_n 1, 1) := by decide +kernel
theorem dX5_fact_1 : decode cX5_fact 1 = .ok (.bipush 8, 2) := by decide +kernel
theorem dX5_fact_3 : decode cX5_fact 3 = .ok (.imul, 1) := by decide +kernel
theorem dX5_fact_4 : decode cX5_fact 4 = .ok (.iload_n 2, 1) := by decide +kernel
theorem dX5_fact_5 : decode cX5_fact 5 = .ok (.iadd, 1) := by decide +kernel
theorem dX5_fact_6 : decode cX5_fact 6 = .ok (.istore_n 3, 1) := by decide +kernel
theorem dX5_fact_7 : decode cX5_fact 7 = .ok (.iload_n 3, 1) := by decide +kernel
theorem dX5_fact_8 : decode cX5_fact 8 = .ok (.ifCond .lt 21, 3) := by decide +kernel
theorem dX5_fact_11 : decode cX5_fact 11 = .ok (.iload_n 3, 1) := by decide +kernel
theorem dX5_fact_12 : decode cX5_fact 12 = .ok (.aload_n 0, 1) := by decide +kernel
theorem dX5_fact_13 : decode cX5_fact 13 = .ok (.getfield 11, 3) := by decide +kernel
theorem dX5_fact_16 : decode cX5_fact 16 = .ok (.arraylength, 1) := by decide +kernel
theorem dX5_fact_17 : decode cX5_fact 17 = .ok (.if_icmp .ge 12, 3) := by decide +kernel
theorem dX5_fact_20 : decode cX5_fact 20 = .ok (.aload_n 0, 1) := by decide +kernel
theorem dX5_fact_21 : decode cX5_fact 21 = .ok (.getfield 11, 3) := by decide +kernel
theorem dX5_fact_24 : decode cX5_fact 24 = .ok (.iload_n 3, 1) := by decide +kernel
theorem dX5_fact_25 : decode cX5_fact 25 = .ok (.iaload, 1) := by decide +kernel
theorem dX5_fact_26 : decode cX5_fact 26 = .ok (.goto 4, 3) := by decide +kernel
theorem dX5_fact_29 : decode cX5_fact 29 = .ok (.iconst 0, 1) := by decide +kernel
theorem dX5_fact_30 : decode cX5_fact 30 = .ok (.ireturn, 1) := by decide +kernel
theorem dX5_note_0 : decode cX5_note 0 = .ok (.iload_n 1, 1) := by decide +kernel
theorem dX5_note_1 : decode cX5_note 1 = .ok (.bipush 8, 2) := by decide +kernel
theorem dX5_note_3 : decode cX5_note 3 = .ok (.imul, 1) := by decide +kernel
theorem dX5_note_4 : decode cX5_note 4 = .ok (.iload_n 2, 1) := by decide +kernel
theorem dX5_note_5 : decode cX5_note 5 = .ok (.iadd, 1) := by decide +kernel
theorem dX5_note_6 : decode cX5_note 6 = .ok (.istore 4, 2) := by decide +kernel
theorem dX5_note_8 : decode cX5_note 8 = .ok (.iload 4, 2) := by decide +kernel
theorem dX5_note_10 : decode cX5_note 10 = .ok (.ifCond .lt 21, 3) := by decide +kernel
theorem dX5_note_13 : decode cX5_note 13 = .ok (.iload 4, 2) := by decide +kernel
theorem dX5_note_15 : decode cX5_note 15 = .ok (.aload_n 0, 1) := by decide +kernel
theorem dX5_note_16 : decode cX5_note 16 = .ok (.getfield 11, 3) := by decide +kernel
theorem dX5_note_19 : decode cX5_note 19 = .ok (.arraylength, 1) := by decide +kernel
theorem dX5_note_20 : decode cX5_note 20 = .ok (.if_icmp .ge 11, 3) := by decide +kernel
theorem dX5_note_23 : decode cX5_note 23 = .ok (.aload_n 0, 1) := by decide +kernel
theorem dX5_note_24 : decode cX5_note 24 = .ok (.getfield 11, 3) := by decide +kernel
theorem dX5_note_27 : decode cX5_note 27 = .ok (.iload 4, 2) := by decide +kernel
theorem dX5_note_29 : decode cX5_note 29 = .ok (.iload_n 3, 1) := by decide +kernel
theorem dX5_note_30 : decode cX5_note 30 = .ok (.iastore, 1) := by decide +kernel
theorem dX5_note_31 : decode cX5_note 31 = .ok (.return_, 1) := by decide +kernel
theorem dX5_open_0 : decode cX5_open 0 = .ok (.iconst 0, 1) := by decide +kernel
theorem dX5_open_1 : decode cX5_open 1 = .ok (.istore 4, 2) := by decide +kernel
theorem dX5_open_3 : decode cX5_open 3 = .ok (.iload 4, 2) := by decide +kernel
theorem dX5_open_5 : decode cX5_open 5 = .ok (.bipush 8, 2) := by decide +kernel
theorem dX5_open_7 : decode cX5_open 7 = .ok (.if_icmp .ge 17, 3) := by decide +kernel
theorem dX5_open_10 : decode cX5_open 10 = .ok (.aload_n 0, 1) := by decide +kernel
theorem dX5_open_11 : decode cX5_open 11 = .ok (.iload_n 1, 1) := by decide +kernel
theorem dX5_open_12 : decode cX5_open 12 = .ok (.iload 4, 2) := by decide +kernel
theorem dX5_open_14 : decode cX5_open 14 = .ok (.iconst 0, 1) := by decide +kernel
theorem dX5_open_15 : decode cX5_open 15 = .ok (.invokevirtual 28, 3) := by decide +kernel
theorem dX5_open_18 : decode cX5_open 18 = .ok (.iinc 4 1, 3) := by decide +kernel
theorem dX5_open_21 : decode cX5_open 21 = .ok (.goto (-18), 3) := by decide +kernel
theorem dX5_open_24 : decode cX5_open 24 = .ok (.aload_n 0, 1) := by decide +kernel
theorem dX5_open_25 : decode cX5_open 25 = .ok (.iload_n 1, 1) := by decide +kernel
theorem dX5_open_26 : decode cX5_open 26 = .ok (.iconst 1, 1) := by decide +kernel
theorem dX5_open_27 : decode cX5_open 27 = .ok (.iload_n 2, 1) := by decide +kernel
theorem dX5_open_28 : decode cX5_open 28 = .ok (.invokevirtual 28, 3) := by decide +kernel
theorem dX5_open_31 : decode cX5_open 31 = .ok (.aload_n 0, 1) := by decide +kernel
theorem dX5_open_32 : decode cX5_open 32 = .ok (.iload_n 1, 1) := by decide +kernel
theorem dX5_open_33 : decode cX5_open 33 = .ok (.iconst 2, 1) := by decide +kernel
theorem dX5_open_34 : decode cX5_open 34 = .ok (.iload_n 3, 1) := by decide +kernel
theorem dX5_open_35 : decode cX5_open 35 = .ok (.invokevirtual 28, 3) := by decide +kernel
theorem dX5_open_38 : decode cX5_open 38 = .ok (.aload_n 0, 1) := by decide +kernel
theorem dX5_open_39 : decode cX5_open 39 = .ok (.iload_n 1, 1) := by decide +kernel
theorem dX5_open_40 : decode cX5_open 40 = .ok (.iconst 4, 1) := by decide +kernel
theorem dX5_open_41 : decode cX5_open 41 = .ok (.bipush (-2), 2) := by decide +kernel
theorem dX5_open_43 : decode cX5_open 43 = .ok (.invokevirtual 28, 3) := by decide +kernel
theorem dX5_open_46 : decode cX5_open 46 = .ok (.aload_n 0, 1) := by decide +kernel
theorem dX5_open_47 : decode cX5_open 47 = .ok (.iload_n 1, 1) := by decide +kernel
theorem dX5_open_48 : decode cX5_open 48 = .ok (.bipush 7, 2) := by decide +kernel
theorem dX5_open_50 : decode cX5_open 50 = .ok (.aload_n 0, 1) := by decide +kernel
theorem dX5_open_51 : decode cX5_open 51 = .ok (.getfield 36, 3) := by decide +kernel
theorem dX5_open_54 : decode cX5_open 54 = .ok (.invokevirtual 28, 3) := by decide +kernel
theorem dX5_open_57 : decode cX5_open 57 = .ok (.return_, 1) := by decide +kernel
theorem dX5_share_0 : decode cX5_share 0 = .ok (.iconst 0, 1) := by decide +kernel
theorem dX5_share_1 : decode cX5_share 1 = .ok (.istore_n 3, 1) := by decide +kernel
theorem dX5_share_2 : decode cX5_share 2 = .ok (.iload_n 3, 1) := by decide +kernel
theorem dX5_share_3 : decode cX5_share 3 = .ok (.bipush 8, 2) := by decide +kernel
theorem dX5_share_5 : decode cX5_share 5 = .ok (.if_icmp .ge 21, 3) := by decide +kernel
theorem dX5_share_8 : decode cX5_share 8 = .ok (.aload_n 0, 1) := by decide +kernel
theorem dX5_share_9 : decode cX5_share 9 = .ok (.iload_n 1, 1) := by decide +kernel
theorem dX5_share_10 : decode cX5_share 10 = .ok (.iload_n 3, 1) := by decide +kernel
theorem dX5_share_11 : decode cX5_share 11 = .ok (.aload_n 0, 1) := by decide +kernel
theorem dX5_share_12 : decode cX5_share 12 = .ok (.iload_n 2, 1) := by decide +kernel
theorem dX5_share_13 : decode cX5_share 13 = .ok (.iload_n 3, 1) := by decide +kernel
theorem dX5_share_14 : decode cX5_share 14 = .ok (.invokevirtual 42, 3) := by decide +kernel
theorem dX5_share_17 : decode cX5_share 17 = .ok (.invokevirtual 28, 3) := by decide +kernel
theorem dX5_share_20 : decode cX5_share 20 = .ok (.iinc 3 1, 3) := by decide +kernel
theorem dX5_share_23 : decode cX5_share 23 = .ok (.goto (-21), 3) := by decide +kernel
theorem dX5_share_26 : decode cX5_share 26 = .ok (.return_, 1) := by decide +kernel
theorem dX5_addBlock_0 : decode cX5_addBlock 0 = .ok (.aload_n 0, 1) := by decide +kernel
theorem dX5_addBlock_1 : decode cX5_addBlock 1 = .ok (.getfield 36, 3) := by decide +kernel
theorem dX5_addBlock_4 : decode cX5_addBlock 4 = .ok (.ifCond .lt 49, 3) := by decide +kernel
theorem dX5_addBlock_7 : decode cX5_addBlock 7 = .ok (.aload_n 0, 1) := by decide +kernel
theorem dX5_addBlock_8 : decode cX5_addBlock 8 = .ok (.getfield 36, 3) := by decide +kernel
theorem dX5_addBlock_11 : decode cX5_addBlock 11 = .ok (.aload_n 0, 1) := by decide +kernel
theorem dX5_addBlock_12 : decode cX5_addBlock 12 = .ok (.getfield 15, 3) := by decide +kernel
theorem dX5_addBlock_15 : decode cX5_addBlock 15 = .ok (.arraylength, 1) := by decide +kernel
theorem dX5_addBlock_16 : decode cX5_addBlock 16 = .ok (.if_icmp .ge 37, 3) := by decide +kernel
theorem dX5_addBlock_19 : decode cX5_addBlock 19 = .ok (.aload_n 0, 1) := by decide +kernel
theorem dX5_addBlock_20 : decode cX5_addBlock 20 = .ok (.getfield 15, 3) := by decide +kernel
theorem dX5_addBlock_23 : decode cX5_addBlock 23 = .ok (.aload_n 0, 1) := by decide +kernel
theorem dX5_addBlock_24 : decode cX5_addBlock 24 = .ok (.getfield 36, 3) := by decide +kernel
theorem dX5_addBlock_27 : decode cX5_addBlock 27 = .ok (.iload_n 2, 1) := by decide +kernel
theorem dX5_addBlock_28 : decode cX5_addBlock 28 = .ok (.iastore, 1) := by decide +kernel
theorem dX5_addBlock_29 : decode cX5_addBlock 29 = .ok (.aload_n 0, 1) := by decide +kernel
theorem dX5_addBlock_30 : decode cX5_addBlock 30 = .ok (.dup, 1) := by decide +kernel
theorem dX5_addBlock_31 : decode cX5_addBlock 31 = .ok (.getfield 36, 3) := by decide +kernel
theorem dX5_addBlock_34 : decode cX5_addBlock 34 = .ok (.iconst 1, 1) := by decide +kernel
theorem dX5_addBlock_35 : decode cX5_addBlock 35 = .ok (.iadd, 1) := by decide +kernel
theorem dX5_addBlock_36 : decode cX5_addBlock 36 = .ok (.putfield 36, 3) := by decide +kernel
theorem dX5_addBlock_39 : decode cX5_addBlock 39 = .ok (.aload_n 0, 1) := by decide +kernel
theorem dX5_addBlock_40 : decode cX5_addBlock 40 = .ok (.iload_n 1, 1) := by decide +kernel
theorem dX5_addBlock_41 : decode cX5_addBlock 41 = .ok (.iconst 3, 1) := by decide +kernel
theorem dX5_addBlock_42 : decode cX5_addBlock 42 = .ok (.aload_n 0, 1) := by decide +kernel
theorem dX5_addBlock_43 : decode cX5_addBlock 43 = .ok (.iload_n 1, 1) := by decide +kernel
theorem dX5_addBlock_44 : decode cX5_addBlock 44 = .ok (.iconst 3, 1) := by decide +kernel
theorem dX5_addBlock_45 : decode cX5_addBlock 45 = .ok (.invokevirtual 42, 3) := by decide +kernel
theorem dX5_addBlock_48 : decode cX5_addBlock 48 = .ok (.iconst 1, 1) := by decide +kernel
theorem dX5_addBlock_49 : decode cX5_addBlock 49 = .ok (.iadd, 1) := by decide +kernel
theorem dX5_addBlock_50 : decode cX5_addBlock 50 = .ok (.invokevirtual 28, 3) := by decide +kernel
theorem dX5_addBlock_53 : decode cX5_addBlock 53 = .ok (.return_, 1) := by decide +kernel
theorem dX5_addZeros_0 : decode cX5_addZeros 0 = .ok (.aload_n 0, 1) := by decide +kernel
theorem dX5_addZeros_1 : decode cX5_addZeros 1 = .ok (.iload_n 1, 1) := by decide +kernel
theorem dX5_addZeros_2 : decode cX5_addZeros 2 = .ok (.iconst 0, 1) := by decide +kernel
theorem dX5_addZeros_3 : decode cX5_addZeros 3 = .ok (.invokevirtual 46, 3) := by decide +kernel
theorem dX5_addZeros_6 : decode cX5_addZeros 6 = .ok (.aload_n 0, 1) := by decide +kernel
theorem dX5_addZeros_7 : decode cX5_addZeros 7 = .ok (.iload_n 1, 1) := by decide +kernel
theorem dX5_addZeros_8 : decode cX5_addZeros 8 = .ok (.bipush 6, 2) := by decide +kernel
theorem dX5_addZeros_10 : decode cX5_addZeros 10 = .ok (.aload_n 0, 1) := by decide +kernel
theorem dX5_addZeros_11 : decode cX5_addZeros 11 = .ok (.iload_n 1, 1) := by decide +kernel
theorem dX5_addZeros_12 : decode cX5_addZeros 12 = .ok (.bipush 6, 2) := by decide +kernel
theorem dX5_addZeros_14 : decode cX5_addZeros 14 = .ok (.invokevirtual 42, 3) := by decide +kernel
theorem dX5_addZeros_17 : decode cX5_addZeros 17 = .ok (.iload_n 2, 1) := by decide +kernel
theorem dX5_addZeros_18 : decode cX5_addZeros 18 = .ok (.iadd, 1) := by decide +kernel
theorem dX5_addZeros_19 : decode cX5_addZeros 19 = .ok (.invokevirtual 28, 3) := by decide +kernel
theorem dX5_addZeros_22 : decode cX5_addZeros 22 = .ok (.return_, 1) := by decide +kernel
theorem dX5_join_0 : decode cX5_join 0 = .ok (.aload_n 0, 1) := by decide +kernel
theorem dX5_join_1 : decode cX5_join 1 = .ok (.iload_n 1, 1) := by decide +kernel
theorem dX5_join_2 : decode cX5_join 2 = .ok (.iconst 4, 1) := by decide +kernel
theorem dX5_join_3 : decode cX5_join 3 = .ok (.aload_n 0, 1) := by decide +kernel
theorem dX5_join_4 : decode cX5_join 4 = .ok (.getfield 39, 3) := by decide +kernel
theorem dX5_join_7 : decode cX5_join 7 = .ok (.invokevirtual 28, 3) := by decide +kernel
theorem dX5_join_10 : decode cX5_join 10 = .ok (.aload_n 0, 1) := by decide +kernel
theorem dX5_join_11 : decode cX5_join 11 = .ok (.iload_n 1, 1) := by decide +kernel
theorem dX5_join_12 : decode cX5_join 12 = .ok (.iconst 5, 1) := by decide +kernel
theorem dX5_join_13 : decode cX5_join 13 = .ok (.iload_n 2, 1) := by decide +kernel
theorem dX5_join_14 : decode cX5_join 14 = .ok (.invokevirtual 28, 3) := by decide +kernel
theorem dX5_join_17 : decode cX5_join 17 = .ok (.return_, 1) := by decide +kernel
theorem dX5_addFragment_0 : decode cX5_addFragment 0 = .ok (.aload_n 0, 1) := by decide +kernel
theorem dX5_addFragment_1 : decode cX5_addFragment 1 = .ok (.getfield 39, 3) := by decide +kernel
theorem dX5_addFragment_4 : decode cX5_addFragment 4 = .ok (.istore_n 3, 1) := by decide +kernel
theorem dX5_addFragment_5 : decode cX5_addFragment 5 = .ok (.iload_n 3, 1) := by decide +kernel
theorem dX5_addFragment_6 : decode cX5_addFragment 6 = .ok (.ifCond .lt 45, 3) := by decide +kernel
theorem dX5_addFragment_9 : decode cX5_addFragment 9 = .ok (.iload_n 3, 1) := by decide +kernel
theorem dX5_addFragment_10 : decode cX5_addFragment 10 = .ok (.aload_n 0, 1) := by decide +kernel
theorem dX5_addFragment_11 : decode cX5_addFragment 11 = .ok (.getfield 18, 3) := by decide +kernel
theorem dX5_addFragment_14 : decode cX5_addFragment 14 = .ok (.arraylength, 1) := by decide +kernel
theorem dX5_addFragment_15 : decode cX5_addFragment 15 = .ok (.if_icmp .ge 36, 3) := by decide +kernel
theorem dX5_addFragment_18 : decode cX5_addFragment 18 = .ok (.iload_n 3, 1) := by decide +kernel
theorem dX5_addFragment_19 : decode cX5_addFragment 19 = .ok (.aload_n 0, 1) := by decide +kernel
theorem dX5_addFragment_20 : decode cX5_addFragment 20 = .ok (.getfield 21, 3) := by decide +kernel
theorem dX5_addFragment_23 : decode cX5_addFragment 23 = .ok (.arraylength, 1) := by decide +kernel
theorem dX5_addFragment_24 : decode cX5_addFragment 24 = .ok (.if_icmp .ge 27, 3) := by decide +kernel
theorem dX5_addFragment_27 : decode cX5_addFragment 27 = .ok (.aload_n 0, 1) := by decide +kernel
theorem dX5_addFragment_28 : decode cX5_addFragment 28 = .ok (.getfield 18, 3) := by decide +kernel
theorem dX5_addFragment_31 : decode cX5_addFragment 31 = .ok (.iload_n 3, 1) := by decide +kernel
theorem dX5_addFragment_32 : decode cX5_addFragment 32 = .ok (.iload_n 1, 1) := by decide +kernel
theorem dX5_addFragment_33 : decode cX5_addFragment 33 = .ok (.iastore, 1) := by decide +kernel
theorem dX5_addFragment_34 : decode cX5_addFragment 34 = .ok (.aload_n 0, 1) := by decide +kernel
theorem dX5_addFragment_35 : decode cX5_addFragment 35 = .ok (.getfield 21, 3) := by decide +kernel
theorem dX5_addFragment_38 : decode cX5_addFragment 38 = .ok (.iload_n 3, 1) := by decide +kernel
theorem dX5_addFragment_39 : decode cX5_addFragment 39 = .ok (.iload_n 2, 1) := by decide +kernel
theorem dX5_addFragment_40 : decode cX5_addFragment 40 = .ok (.iastore, 1) := by decide +kernel
theorem dX5_addFragment_41 : decode cX5_addFragment 41 = .ok (.aload_n 0, 1) := by decide +kernel
theorem dX5_addFragment_42 : decode cX5_addFragment 42 = .ok (.dup, 1) := by decide +kernel
theorem dX5_addFragment_43 : decode cX5_addFragment 43 = .ok (.getfield 39, 3) := by decide +kernel
theorem dX5_addFragment_46 : decode cX5_addFragment 46 = .ok (.iconst 1, 1) := by decide +kernel
theorem dX5_addFragment_47 : decode cX5_addFragment 47 = .ok (.iadd, 1) := by decide +kernel
theorem dX5_addFragment_48 : decode cX5_addFragment 48 = .ok (.putfield 39, 3) := by decide +kernel
theorem dX5_addFragment_51 : decode cX5_addFragment 51 = .ok (.return_, 1) := by decide +kernel
theorem dX5_fragmentCount_0 : decode cX5_fragmentCount 0 = .ok (.aload_n 0, 1) := by decide +kernel
theorem dX5_fragmentCount_1 : decode cX5_fragmentCount 1 = .ok (.getfield 39, 3) := by decide +kernel
theorem dX5_fragmentCount_4 : decode cX5_fragmentCount 4 = .ok (.ireturn, 1) := by decide +kernel
theorem dX5_fragmentBegin_0 : decode cX5_fragmentBegin 0 = .ok (.iload_n 1, 1) := by decide +kernel
theorem dX5_fragmentBegin_1 : decode cX5_fragmentBegin 1 = .ok (.ifCond .lt 21, 3) := by decide +kernel
theorem dX5_fragmentBegin_4 : decode cX5_fragmentBegin 4 = .ok (.iload_n 1, 1) := by decide +kernel
theorem dX5_fragmentBegin_5 : decode cX5_fragmentBegin 5 = .ok (.aload_n 0, 1) := by decide +kernel
theorem dX5_fragmentBegin_6 : decode cX5_fragmentBegin 6 = .ok (.getfield 18, 3) := by decide +kernel
theorem dX5_fragmentBegin_9 : decode cX5_fragmentBegin 9 = .ok (.arraylength, 1) := by decide +kernel
theorem dX5_fragmentBegin_10 : decode cX5_fragmentBegin 10 = .ok (.if_icmp .ge 12, 3) := by decide +kernel
theorem dX5_fragmentBegin_13 : decode cX5_fragmentBegin 13 = .ok (.aload_n 0, 1) := by decide +kernel
theorem dX5_fragmentBegin_14 : decode cX5_fragmentBegin 14 = .ok (.getfield 18, 3) := by decide +kernel
theorem dX5_fragmentBegin_17 : decode cX5_fragmentBegin 17 = .ok (.iload_n 1, 1) := by decide +kernel
theorem dX5_fragmentBegin_18 : decode cX5_fragmentBegin 18 = .ok (.iaload, 1) := by decide +kernel
theorem dX5_fragmentBegin_19 : decode cX5_fragmentBegin 19 = .ok (.goto 4, 3) := by decide +kernel
theorem dX5_fragmentBegin_22 : decode cX5_fragmentBegin 22 = .ok (.iconst 0, 1) := by decide +kernel
theorem dX5_fragmentBegin_23 : decode cX5_fragmentBegin 23 = .ok (.ireturn, 1) := by decide +kernel
theorem dX5_fragmentNumber_0 : decode cX5_fragmentNumber 0 = .ok (.iload_n 1, 1) := by decide +kernel
theorem dX5_fragmentNumber_1 : decode cX5_fragmentNumber 1 = .ok (.ifCond .lt 21, 3) := by decide +kernel
theorem dX5_fragmentNumber_4 : decode cX5_fragmentNumber 4 = .ok (.iload_n 1, 1) := by decide +kernel
theorem dX5_fragmentNumber_5 : decode cX5_fragmentNumber 5 = .ok (.aload_n 0, 1) := by decide +kernel
theorem dX5_fragmentNumber_6 : decode cX5_fragmentNumber 6 = .ok (.getfield 21, 3) := by decide +kernel
theorem dX5_fragmentNumber_9 : decode cX5_fragmentNumber 9 = .ok (.arraylength, 1) := by decide +kernel
theorem dX5_fragmentNumber_10 : decode cX5_fragmentNumber 10 = .ok (.if_icmp .ge 12, 3) := by decide +kernel
theorem dX5_fragmentNumber_13 : decode cX5_fragmentNumber 13 = .ok (.aload_n 0, 1) := by decide +kernel
theorem dX5_fragmentNumber_14 : decode cX5_fragmentNumber 14 = .ok (.getfield 21, 3) := by decide +kernel
theorem dX5_fragmentNumber_17 : decode cX5_fragmentNumber 17 = .ok (.iload_n 1, 1) := by decide +kernel
theorem dX5_fragmentNumber_18 : decode cX5_fragmentNumber 18 = .ok (.iaload, 1) := by decide +kernel
theorem dX5_fragmentNumber_19 : decode cX5_fragmentNumber 19 = .ok (.goto 4, 3) := by decide +kernel
theorem dX5_fragmentNumber_22 : decode cX5_fragmentNumber 22 = .ok (.iconst 0, 1) := by decide +kernel
theorem dX5_fragmentNumber_23 : decode cX5_fragmentNumber 23 = .ok (.ireturn, 1) := by decide +kernel
theorem dX5_blockNumber_0 : decode cX5_blockNumber 0 = .ok (.aload_n 0, 1) := by decide +kernel
theorem dX5_blockNumber_1 : decode cX5_blockNumber 1 = .ok (.iload_n 1, 1) := by decide +kernel
theorem dX5_blockNumber_2 : decode cX5_blockNumber 2 = .ok (.bipush 7, 2) := by decide +kernel
theorem dX5_blockNumber_4 : decode cX5_blockNumber 4 = .ok (.invokevirtual 42, 3) := by decide +kernel
theorem dX5_blockNumber_7 : decode cX5_blockNumber 7 = .ok (.iload_n 2, 1) := by decide +kernel
theorem dX5_blockNumber_8 : decode cX5_blockNumber 8 = .ok (.iadd, 1) := by decide +kernel
theorem dX5_blockNumber_9 : decode cX5_blockNumber 9 = .ok (.istore_n 3, 1) := by decide +kernel
theorem dX5_blockNumber_10 : decode cX5_blockNumber 10 = .ok (.iload_n 3, 1) := by decide +kernel
theorem dX5_blockNumber_11 : decode cX5_blockNumber 11 = .ok (.ifCond .lt 21, 3) := by decide +kernel
theorem dX5_blockNumber_14 : decode cX5_blockNumber 14 = .ok (.iload_n 3, 1) := by decide +kernel
theorem dX5_blockNumber_15 : decode cX5_blockNumber 15 = .ok (.aload_n 0, 1) := by decide +kernel
theorem dX5_blockNumber_16 : decode cX5_blockNumber 16 = .ok (.getfield 15, 3) := by decide +kernel
theorem dX5_blockNumber_19 : decode cX5_blockNumber 19 = .ok (.arraylength, 1) := by decide +kernel
theorem dX5_blockNumber_20 : decode cX5_blockNumber 20 = .ok (.if_icmp .ge 12, 3) := by decide +kernel
theorem dX5_blockNumber_23 : decode cX5_blockNumber 23 = .ok (.aload_n 0, 1) := by decide +kernel
theorem dX5_blockNumber_24 : decode cX5_blockNumber 24 = .ok (.getfield 15, 3) := by decide +kernel
theorem dX5_blockNumber_27 : decode cX5_blockNumber 27 = .ok (.iload_n 3, 1) := by decide +kernel
theorem dX5_blockNumber_28 : decode cX5_blockNumber 28 = .ok (.iaload, 1) := by decide +kernel
theorem dX5_blockNumber_29 : decode cX5_blockNumber 29 = .ok (.goto 4, 3) := by decide +kernel
theorem dX5_blockNumber_32 : decode cX5_blockNumber 32 = .ok (.iconst 0, 1) := by decide +kernel
theorem dX5_blockNumber_33 : decode cX5_blockNumber 33 = .ok (.ireturn, 1) := by decide +kernel
theorem dX5_blockBegin_0 : decode cX5_blockBegin 0 = .ok (.aload_n 0, 1) := by decide +kernel
theorem dX5_blockBegin_1 : decode cX5_blockBegin 1 = .ok (.iload_n 1, 1) := by decide +kernel
theorem dX5_blockBegin_2 : decode cX5_blockBegin 2 = .ok (.iconst 2, 1) := by decide +kernel
theorem dX5_blockBegin_3 : decode cX5_blockBegin 3 = .ok (.invokevirtual 42, 3) := by decide +kernel
theorem dX5_blockBegin_6 : decode cX5_blockBegin 6 = .ok (.istore_n 3, 1) := by decide +kernel
theorem dX5_blockBegin_7 : decode cX5_blockBegin 7 = .ok (.iconst 0, 1) := by decide +kernel
theorem dX5_blockBegin_8 : decode cX5_blockBegin 8 = .ok (.istore 4, 2) := by decide +kernel
theorem dX5_blockBegin_10 : decode cX5_blockBegin 10 = .ok (.iload 4, 2) := by decide +kernel
theorem dX5_blockBegin_12 : decode cX5_blockBegin 12 = .ok (.iload_n 2, 1) := by decide +kernel
theorem dX5_blockBegin_13 : decode cX5_blockBegin 13 = .ok (.if_icmp .ge 22, 3) := by decide +kernel
theorem dX5_blockBegin_16 : decode cX5_blockBegin 16 = .ok (.iload_n 3, 1) := by decide +kernel
theorem dX5_blockBegin_17 : decode cX5_blockBegin 17 = .ok (.aload_n 0, 1) := by decide +kernel
theorem dX5_blockBegin_18 : decode cX5_blockBegin 18 = .ok (.iload_n 1, 1) := by decide +kernel
theorem dX5_blockBegin_19 : decode cX5_blockBegin 19 = .ok (.iload 4, 2) := by decide +kernel
theorem dX5_blockBegin_21 : decode cX5_blockBegin 21 = .ok (.invokevirtual 50, 3) := by decide +kernel
theorem dX5_blockBegin_24 : decode cX5_blockBegin 24 = .ok (.ldc 53, 2) := by decide +kernel
theorem dX5_blockBegin_26 : decode cX5_blockBegin 26 = .ok (.iand, 1) := by decide +kernel
theorem dX5_blockBegin_27 : decode cX5_blockBegin 27 = .ok (.iadd, 1) := by decide +kernel
theorem dX5_blockBegin_28 : decode cX5_blockBegin 28 = .ok (.istore_n 3, 1) := by decide +kernel
theorem dX5_blockBegin_29 : decode cX5_blockBegin 29 = .ok (.iinc 4 1, 3) := by decide +kernel
theorem dX5_blockBegin_32 : decode cX5_blockBegin 32 = .ok (.goto (-22), 3) := by decide +kernel
theorem dX5_blockBegin_35 : decode cX5_blockBegin 35 = .ok (.iload_n 3, 1) := by decide +kernel
theorem dX5_blockBegin_36 : decode cX5_blockBegin 36 = .ok (.ireturn, 1) := by decide +kernel
theorem dX5_wholeBytes_0 : decode cX5_wholeBytes 0 = .ok (.aload_n 0, 1) := by decide +kernel
theorem dX5_wholeBytes_1 : decode cX5_wholeBytes 1 = .ok (.invokevirtual 54, 3) := by decide +kernel
theorem dX5_wholeBytes_4 : decode cX5_wholeBytes 4 = .ok (.aload_n 0, 1) := by decide +kernel
theorem dX5_wholeBytes_5 : decode cX5_wholeBytes 5 = .ok (.iload_n 1, 1) := by decide +kernel
theorem dX5_wholeBytes_6 : decode cX5_wholeBytes 6 = .ok (.iconst 1, 1) := by decide +kernel
theorem dX5_wholeBytes_7 : decode cX5_wholeBytes 7 = .ok (.invokevirtual 42, 3) := by decide +kernel
theorem dX5_wholeBytes_10 : decode cX5_wholeBytes 10 = .ok (.iload_n 2, 1) := by decide +kernel
theorem dX5_wholeBytes_11 : decode cX5_wholeBytes 11 = .ok (.aload_n 0, 1) := by decide +kernel
theorem dX5_wholeBytes_12 : decode cX5_wholeBytes 12 = .ok (.getfield 32, 3) := by decide +kernel
theorem dX5_wholeBytes_15 : decode cX5_wholeBytes 15 = .ok (.ishl, 1) := by decide +kernel
theorem dX5_wholeBytes_16 : decode cX5_wholeBytes 16 = .ok (.isub, 1) := by decide +kernel
theorem dX5_wholeBytes_17 : decode cX5_wholeBytes 17 = .ok (.invokestatic 58, 3) := by decide +kernel
theorem dX5_wholeBytes_20 : decode cX5_wholeBytes 20 = .ok (.ireturn, 1) := by decide +kernel
theorem dX6_init_0 : decode cX6_init 0 = .ok (.aload_n 0, 1) := by decide +kernel
theorem dX6_init_1 : decode cX6_init 1 = .ok (.invokespecial 3, 3) := by decide +kernel
theorem dX6_init_4 : decode cX6_init 4 = .ok (.aload_n 0, 1) := by decide +kernel
theorem dX6_init_5 : decode cX6_init 5 = .ok (.sipush 288, 3) := by decide +kernel
theorem dX6_init_8 : decode cX6_init 8 = .ok (.newarray .int, 2) := by decide +kernel
theorem dX6_init_10 : decode cX6_init 10 = .ok (.putfield 9, 3) := by decide +kernel
theorem dX6_init_13 : decode cX6_init 13 = .ok (.aload_n 0, 1) := by decide +kernel
theorem dX6_init_14 : decode cX6_init 14 = .ok (.sipush 288, 3) := by decide +kernel
theorem dX6_init_17 : decode cX6_init 17 = .ok (.newarray .int, 2) := by decide +kernel
theorem dX6_init_19 : decode cX6_init 19 = .ok (.putfield 15, 3) := by decide +kernel
theorem dX6_init_22 : decode cX6_init 22 = .ok (.aload_n 0, 1) := by decide +kernel
theorem dX6_init_23 : decode cX6_init 23 = .ok (.sipush 288, 3) := by decide +kernel
theorem dX6_init_26 : decode cX6_init 26 = .ok (.newarray .int, 2) := by decide +kernel
theorem dX6_init_28 : decode cX6_init 28 = .ok (.putfield 18, 3) := by decide +kernel
theorem dX6_init_31 : decode cX6_init 31 = .ok (.aload_n 0, 1) := by decide +kernel
theorem dX6_init_32 : decode cX6_init 32 = .ok (.sipush 576, 3) := by decide +kernel
theorem dX6_init_35 : decode cX6_init 35 = .ok (.newarray .int, 2) := by decide +kernel
theorem dX6_init_37 : decode cX6_init 37 = .ok (.putfield 21, 3) := by decide +kernel
theorem dX6_init_40 : decode cX6_init 40 = .ok (.aload_n 0, 1) := by decide +kernel
theorem dX6_init_41 : decode cX6_init 41 = .ok (.sipush 576, 3) := by decide +kernel
theorem dX6_init_44 : decode cX6_init 44 = .ok (.newarray .int, 2) := by decide +kernel
theorem dX6_init_46 : decode cX6_init 46 = .ok (.putfield 24, 3) := by decide +kernel
theorem dX6_init_49 : decode cX6_init 49 = .ok (.aload_n 0, 1) := by decide +kernel
theorem dX6_init_50 : decode cX6_init 50 = .ok (.sipush 8640, 3) := by decide +kernel
theorem dX6_init_53 : decode cX6_init 53 = .ok (.newarray .boolean, 2) := by decide +kernel
theorem dX6_init_55 : decode cX6_init 55 = .ok (.putfield 27, 3) := by decide +kernel
theorem dX6_init_58 : decode cX6_init 58 = .ok (.return_, 1) := by decide +kernel
theorem dX6_make_0 : decode cX6_make 0 = .ok (.iconst 0, 1) := by decide +kernel
theorem dX6_make_1 : decode cX6_make 1 = .ok (.istore_n 3, 1) := by decide +kernel
theorem dX6_make_2 : decode cX6_make 2 = .ok (.iconst 0, 1) := by decide +kernel
theorem dX6_make_3 : decode cX6_make 3 = .ok (.istore 4, 2) := by decide +kernel
theorem dX6_make_5 : decode cX6_make 5 = .ok (.iload 4, 2) := by decide +kernel
theorem dX6_make_7 : decode cX6_make 7 = .ok (.aload_n 1, 1) := by decide +kernel
theorem dX6_make_8 : decode cX6_make 8 = .ok (.invokevirtual 31, 3) := by decide +kernel
theorem dX6_make_11 : decode cX6_make 11 = .ok (.if_icmp .ge 50, 3) := by decide +kernel
theorem dX6_make_14 : decode cX6_make 14 = .ok (.aload_n 1, 1) := by decide +kernel
theorem dX6_make_15 : decode cX6_make 15 = .ok (.iload 4, 2) := by decide +kernel
theorem dX6_make_17 : decode cX6_make 17 = .ok (.iconst 0, 1) := by decide +kernel
theorem dX6_make_18 : decode cX6_make 18 = .ok (.invokevirtual 37, 3) := by decide +kernel
theorem dX6_make_21 : decode cX6_make 21 = .ok (.aload_n 1, 1) := by decide +kernel
theorem dX6_make_22 : decode cX6_make 22 = .ok (.iload 4, 2) := by decide +kernel
theorem dX6_make_24 : decode cX6_make 24 = .ok (.invokevirtual 41, 3) := by decide +kernel
theorem dX6_make_27 : decode cX6_make 27 = .ok (.istore 5, 2) := by decide +kernel
theorem dX6_make_29 : decode cX6_make 29 = .ok (.iload 5, 2) := by decide +kernel
theorem dX6_make_31 : decode cX6_make 31 = .ok (.ifCond .le 24, 3) := by decide +kernel
theorem dX6_make_34 : decode cX6_make 34 = .ok (.iload_n 3, 1) := by decide +kernel
theorem dX6_make_35 : decode cX6_make 35 = .ok (.aload_n 0, 1) := by decide +kernel
theorem dX6_make_36 : decode cX6_make 36 = .ok (.getfield 9, 3) := by decide +kernel
theorem dX6_make_39 : decode cX6_make 39 = .ok (.arraylength, 1) := by decide +kernel
theorem dX6_make_40 : decode cX6_make 40 = .ok (.if_icmp .ge 15, 3) := by decide +kernel
theorem dX6_make_43 : decode cX6_make 43 = .ok (.aload_n 0, 1) := by decide +kernel
theorem dX6_make_44 : decode cX6_make 44 = .ok (.iload 4, 2) := by decide +kernel
theorem dX6_make_46 : decode cX6_make 46 = .ok (.iload 5, 2) := by decide +kernel
theorem dX6_make_48 : decode cX6_make 48 = .ok (.iload_n 3, 1) := by decide +kernel
theorem dX6_make_49 : decode cX6_make 49 = .ok (.invokevirtual 45, 3) := by decide +kernel
theorem dX6_make_52 : decode cX6_make 52 = .ok (.iinc 3 1, 3) := by decide +kernel
theorem dX6_make_55 : decode cX6_make 55 = .ok (.iinc 4 1, 3) := by decide +kernel
theorem dX6_make_58 : decode cX6_make 58 = .ok (.goto (-53), 3) := by decide +kernel
theorem dX6_make_61 : decode cX6_make 61 = .ok (.aload_n 0, 1) := by decide +kernel
theorem dX6_make_62 : decode cX6_make 62 = .ok (.iload_n 3, 1) := by decide +kernel
theorem dX6_make_63 : decode cX6_make 63 = .ok (.invokevirtual 49, 3) := by decide +kernel
theorem dX6_make_66 : decode cX6_make 66 = .ok (.iload_n 3, 1) := by decide +kernel
theorem dX6_make_67 : decode cX6_make 67 = .ok (.istore 4, 2) := by decide +kernel
theorem dX6_make_69 : decode cX6_make 69 = .ok (.iconst 1, 1) := by decide +kernel
theorem dX6_make_70 : decode cX6_make 70 = .ok (.istore 5, 2) := by decide +kernel
theorem dX6_make_72 : decode cX6_make 72 = .ok (.iload 5, 2) := by decide +kernel
theorem dX6_make_74 : decode cX6_make 74 = .ok (.iload_n 2, 1) := by decide +kernel
theorem dX6_make_75 : decode cX6_make 75 = .ok (.if_icmp .ge 20, 3) := by decide +kernel
theorem dX6_make_78 : decode cX6_make 78 = .ok (.aload_n 0, 1) := by decide +kernel
theorem dX6_make_79 : decode cX6_make 79 = .ok (.iload 5, 2) := by decide +kernel
theorem dX6_make_81 : decode cX6_make 81 = .ok (.iload_n 3, 1) := by decide +kernel
theorem dX6_make_82 : decode cX6_make 82 = .ok (.iload 4, 2) := by decide +kernel
theorem dX6_make_84 : decode cX6_make 84 = .ok (.invokevirtual 53, 3) := by decide +kernel
theorem dX6_make_87 : decode cX6_make 87 = .ok (.istore 4, 2) := by decide +kernel
theorem dX6_make_89 : decode cX6_make 89 = .ok (.iinc 5 1, 3) := by decide +kernel
theorem dX6_make_92 : decode cX6_make 92 = .ok (.goto (-20), 3) := by decide +kernel
theorem dX6_make_95 : decode cX6_make 95 = .ok (.iconst 2, 1) := by decide +kernel
theorem dX6_make_96 : decode cX6_make 96 = .ok (.iload_n 3, 1) := by decide +kernel
theorem dX6_make_97 : decode cX6_make 97 = .ok (.imul, 1) := by decide +kernel
theorem dX6_make_98 : decode cX6_make 98 = .ok (.iconst 2, 1) := by decide +kernel
theorem dX6_make_99 : decode cX6_make 99 = .ok (.isub, 1) := by decide +kernel
theorem dX6_make_100 : decode cX6_make 100 = .ok (.istore 5, 2) := by decide +kernel
theorem dX6_make_102 : decode cX6_make 102 = .ok (.iload_n 2, 1) := by decide +kernel
theorem dX6_make_103 : decode cX6_make 103 = .ok (.iconst 1, 1) := by decide +kernel
theorem dX6_make_104 : decode cX6_make 104 = .ok (.isub, 1) := by decide +kernel
theorem dX6_make_105 : decode cX6_make 105 = .ok (.istore 6, 2) := by decide +kernel
theorem dX6_make_107 : decode cX6_make 107 = .ok (.iload 6, 2) := by decide +kernel
theorem dX6_make_109 : decode cX6_make 109 = .ok (.ifCond .lt 19, 3) := by decide +kernel
theorem dX6_make_112 : decode cX6_make 112 = .ok (.aload_n 0, 1) := by decide +kernel
theorem dX6_make_113 : decode cX6_make 113 = .ok (.iload 6, 2) := by decide +kernel
theorem dX6_make_115 : decode cX6_make 115 = .ok (.iload 5, 2) := by decide +kernel
theorem dX6_make_117 : decode cX6_make 117 = .ok (.invokevirtual 57, 3) := by decide +kernel
theorem dX6_make_120 : decode cX6_make 120 = .ok (.istore 5, 2) := by decide +kernel
theorem dX6_make_122 : decode cX6_make 122 = .ok (.iinc 6 (-1), 3) := by decide +kernel
theorem dX6_make_125 : decode cX6_make 125 = .ok (.goto (-18), 3) := by decide +kernel
theorem dX6_make_128 : decode cX6_make 128 = .ok (.iconst 0, 1) := by decide +kernel
theorem dX6_make_129 : decode cX6_make 129 = .ok (.istore 6, 2) := by decide +kernel
theorem dX6_make_131 : decode cX6_make 131 = .ok (.iload 6, 2) := by decide +kernel
theorem dX6_make_133 : decode cX6_make 133 = .ok (.iload_n 3, 1) := by decide +kernel
theorem dX6_make_134 : decode cX6_make 134 = .ok (.if_icmp .ge 56, 3) := by decide +kernel
theorem dX6_make_137 : decode cX6_make 137 = .ok (.iload 6, 2) := by decide +kernel
theorem dX6_make_139 : decode cX6_make 139 = .ok (.aload_n 0, 1) := by decide +kernel
theorem dX6_make_140 : decode cX6_make 140 = .ok (.getfield 9, 3) := by decide +kernel
theorem dX6_make_143 : decode cX6_make 143 = .ok (.arraylength, 1) := by decide +kernel
theorem dX6_make_144 : decode cX6_make 144 = .ok (.if_icmp .ge 46, 3) := by decide +kernel
theorem dX6_make_147 : decode cX6_make 147 = .ok (.iload 6, 2) := by decide +kernel
theorem dX6_make_149 : decode cX6_make 149 = .ok (.aload_n 0, 1) := by decide +kernel
theorem dX6_make_150 : decode cX6_make 150 = .ok (.getfield 18, 3) := by decide +kernel
theorem dX6_make_153 : decode cX6_make 153 = .ok (.arraylength, 1) := by decide +kernel
theorem dX6_make_154 : decode cX6_make 154 = .ok (.if_icmp .ge 36, 3) := by decide +kernel
theorem dX6_make_157 : decode cX6_make 157 = .ok (.aload_n 1, 1) := by decide +kernel
theorem dX6_make_158 : decode cX6_make 158 = .ok (.aload_n 0, 1) := by decide +kernel
theorem dX6_make_159 : decode cX6_make 159 = .ok (.getfield 9, 3) := by decide +kernel
theorem dX6_make_162 : decode cX6_make 162 = .ok (.iload 6, 2) := by decide +kernel
theorem dX6_make_164 : decode cX6_make 164 = .ok (.iaload, 1) := by decide +kernel
theorem dX6_make_165 : decode cX6_make 165 = .ok (.iload_n 3, 1) := by decide +kernel
theorem dX6_make_166 : decode cX6_make 166 = .ok (.iconst 1, 1) := by decide +kernel
theorem dX6_make_167 : decode cX6_make 167 = .ok (.if_icmp .ne 7, 3) := by decide +kernel
theorem dX6_make_170 : decode cX6_make 170 = .ok (.iconst 1, 1) := by decide +kernel
theorem dX6_make_171 : decode cX6_make 171 = .ok (.goto 10, 3) := by decide +kernel
theorem dX6_make_174 : decode cX6_make 174 = .ok (.aload_n 0, 1) := by decide +kernel
theorem dX6_make_175 : decode cX6_make 175 = .ok (.getfield 18, 3) := by decide +kernel
theorem dX6_make_178 : decode cX6_make 178 = .ok (.iload 6, 2) := by decide +kernel
theorem dX6_make_180 : decode cX6_make 180 = .ok (.iaload, 1) := by decide +kernel
theorem dX6_make_181 : decode cX6_make 181 = .ok (.invokevirtual 37, 3) := by decide +kernel
theorem dX6_make_184 : decode cX6_make 184 = .ok (.iinc 6 1, 3) := by decide +kernel
theorem dX6_make_187 : decode cX6_make 187 = .ok (.goto (-56), 3) := by decide +kernel
theorem dX6_make_190 : decode cX6_make 190 = .ok (.return_, 1) := by decide +kernel
theorem dX6_insert_0 : decode cX6_insert 0 = .ok (.iload_n 3, 1) := by decide +kernel
theorem dX6_insert_1 : decode cX6_insert 1 = .ok (.aload_n 0, 1) := by decide +kernel
theorem dX6_insert_2 : decode cX6_insert 2 = .ok (.getfield 9, 3) := by decide +kernel
theorem dX6_insert_5 : decode cX6_insert 5 = .ok (.arraylength, 1) := by decide +kernel
theorem dX6_insert_6 : decode cX6_insert 6 = .ok (.aload_n 0, 1) := by decide +kernel
theorem dX6_insert_7 : decode cX6_insert 7 = .ok (.getfield 15, 3) := by decide +kernel
theorem dX6_insert_10 : decode cX6_insert 10 = .ok (.arraylength, 1) := by decide +kernel
theorem dX6_insert_11 : decode cX6_insert 11 = .ok (.invokestatic 61, 3) := by decide +kernel
theorem dX6_insert_14 : decode cX6_insert 14 = .ok (.iconst 1, 1) := by decide +kernel
theorem dX6_insert_15 : decode cX6_insert 15 = .ok (.isub, 1) := by decide +kernel
theorem dX6_insert_16 : decode cX6_insert 16 = .ok (.invokestatic 61, 3) := by decide +kernel
theorem dX6_insert_19 : decode cX6_insert 19 = .ok (.istore 4, 2) := by decide +kernel
theorem dX6_insert_21 : decode cX6_insert 21 = .ok (.iload 4, 2) := by decide +kernel
theorem dX6_insert_23 : decode cX6_insert 23 = .ok (.ifCond .le 54, 3) := by decide +kernel
theorem dX6_insert_26 : decode cX6_insert 26 = .ok (.aload_n 0, 1) := by decide +kernel
theorem dX6_insert_27 : decode cX6_insert 27 = .ok (.getfield 15, 3) := by decide +kernel
theorem dX6_insert_30 : decode cX6_insert 30 = .ok (.iload 4, 2) := by decide +kernel
theorem dX6_insert_32 : decode cX6_insert 32 = .ok (.iconst 1, 1) := by decide +kernel
theorem dX6_insert_33 : decode cX6_insert 33 = .ok (.isub, 1) := by decide +kernel
theorem dX6_insert_34 : decode cX6_insert 34 = .ok (.iaload, 1) := by decide +kernel
theorem dX6_insert_35 : decode cX6_insert 35 = .ok (.iload_n 2, 1) := by decide +kernel
theorem dX6_insert_36 : decode cX6_insert 36 = .ok (.if_icmp .le 41, 3) := by decide +kernel
theorem dX6_insert_39 : decode cX6_insert 39 = .ok (.aload_n 0, 1) := by decide +kernel
theorem dX6_insert_40 : decode cX6_insert 40 = .ok (.getfield 9, 3) := by decide +kernel
theorem dX6_insert_43 : decode cX6_insert 43 = .ok (.iload 4, 2) := by decide +kernel
theorem dX6_insert_45 : decode cX6_insert 45 = .ok (.aload_n 0, 1) := by decide +kernel
theorem dX6_insert_46 : decode cX6_insert 46 = .ok (.getfield 9, 3) := by decide +kernel
theorem dX6_insert_49 : decode cX6_insert 49 = .ok (.iload 4, 2) := by decide +kernel
theorem dX6_insert_51 : decode cX6_insert 51 = .ok (.iconst 1, 1) := by decide +kernel
theorem dX6_insert_52 : decode cX6_insert 52 = .ok (.isub, 1) := by decide +kernel
theorem dX6_insert_53 : decode cX6_insert 53 = .ok (.iaload, 1) := by decide +kernel
theorem dX6_insert_54 : decode cX6_insert 54 = .ok (.iastore, 1) := by decide +kernel
theorem dX6_insert_55 : decode cX6_insert 55 = .ok (.aload_n 0, 1) := by decide +kernel
theorem dX6_insert_56 : decode cX6_insert 56 = .ok (.getfield 15, 3) := by decide +kernel
theorem dX6_insert_59 : decode cX6_insert 59 = .ok (.iload 4, 2) := by decide +kernel
theorem dX6_insert_61 : decode cX6_insert 61 = .ok (.aload_n 0, 1) := by decide +kernel
theorem dX6_insert_62 : decode cX6_insert 62 = .ok (.getfield 15, 3) := by decide +kernel
theorem dX6_insert_65 : decode cX6_insert 65 = .ok (.iload 4, 2) := by decide +kernel
theorem dX6_insert_67 : decode cX6_insert 67 = .ok (.iconst 1, 1) := by decide +kernel
theorem dX6_insert_68 : decode cX6_insert 68 = .ok (.isub, 1) := by decide +kernel
theorem dX6_insert_69 : decode cX6_insert 69 = .ok (.iaload, 1) := by decide +kernel
theorem dX6_insert_70 : decode cX6_insert 70 = .ok (.iastore, 1) := by decide +kernel
theorem dX6_insert_71 : decode cX6_insert 71 = .ok (.iinc 4 (-1), 3) := by decide +kernel
theorem dX6_insert_74 : decode cX6_insert 74 = .ok (.goto (-53), 3) := by decide +kernel
theorem dX6_insert_77 : decode cX6_insert 77 = .ok (.iload 4, 2) := by decide +kernel
theorem dX6_insert_79 : decode cX6_insert 79 = .ok (.ifCond .lt 19, 3) := by decide +kernel
theorem dX6_insert_82 : decode cX6_insert 82 = .ok (.aload_n 0, 1) := by decide +kernel
theorem dX6_insert_83 : decode cX6_insert 83 = .ok (.getfield 9, 3) := by decide +kernel
theorem dX6_insert_86 : decode cX6_insert 86 = .ok (.iload 4, 2) := by decide +kernel
theorem dX6_insert_88 : decode cX6_insert 88 = .ok (.iload_n 1, 1) := by decide +kernel
theorem dX6_insert_89 : decode cX6_insert 89 = .ok (.iastore, 1) := by decide +kernel
theorem dX6_insert_90 : decode cX6_insert 90 = .ok (.aload_n 0, 1) := by decide +kernel
theorem dX6_insert_91 : decode cX6_insert 91 = .ok (.getfield 15, 3) := by decide +kernel
theorem dX6_insert_94 : decode cX6_insert 94 = .ok (.iload 4, 2) := by decide +kernel
theorem dX6_insert_96 : decode cX6_insert 96 = .ok (.iload_n 2, 1) := by decide +kernel
theorem dX6_insert_97 : decode cX6_insert 97 = .ok (.iastore, 1) := by decide +kernel
theorem dX6_insert_98 : decode cX6_insert 98 = .ok (.return_, 1) := by decide +kernel
theorem dX6_begin_0 : decode cX6_begin 0 = .ok (.iconst 0, 1) := by decide +kernel
theorem dX6_begin_1 : decode cX6_begin 1 = .ok (.istore_n 2, 1) := by decide +kernel
theorem dX6_begin_2 : decode cX6_begin 2 = .ok (.iload_n 2, 1) := by decide +kernel
theorem dX6_begin_3 : decode cX6_begin 3 = .ok (.aload_n 0, 1) := by decide +kernel
theorem dX6_begin_4 : decode cX6_begin 4 = .ok (.getfield 18, 3) := by decide +kernel
theorem dX6_begin_7 : decode cX6_begin 7 = .ok (.arraylength, 1) := by decide +kernel
theorem dX6_begin_8 : decode cX6_begin 8 = .ok (.if_icmp .ge 16, 3) := by decide +kernel
theorem dX6_begin_11 : decode cX6_begin 11 = .ok (.aload_n 0, 1) := by decide +kernel
theorem dX6_begin_12 : decode cX6_begin 12 = .ok (.getfield 18, 3) := by decide +kernel
theorem dX6_begin_15 : decode cX6_begin 15 = .ok (.iload_n 2, 1) := by decide +kernel
theorem dX6_begin_16 : decode cX6_begin 16 = .ok (.iconst 0, 1) := by decide +kernel
theorem dX6_begin_17 : decode cX6_begin 17 = .ok (.iastore, 1) := by decide +kernel
theorem dX6_begin_18 : decode cX6_begin 18 = .ok (.iinc 2 1, 3) := by decide +kernel
theorem dX6_begin_21 : decode cX6_begin 21 = .ok (.goto (-19), 3) := by decide +kernel
theorem dX6_begin_24 : decode cX6_begin 24 = .ok (.iconst 0, 1) := by decide +kernel
theorem dX6_begin_25 : decode cX6_begin 25 = .ok (.istore_n 2, 1) := by decide +kernel
theorem dX6_begin_26 : decode cX6_begin 26 = .ok (.iload_n 2, 1) := by decide +kernel
theorem dX6_begin_27 : decode cX6_begin 27 = .ok (.iload_n 1, 1) := by decide +kernel
theorem dX6_begin_28 : decode cX6_begin 28 = .ok (.if_icmp .ge 39, 3) := by decide +kernel
theorem dX6_begin_31 : decode cX6_begin 31 = .ok (.iload_n 2, 1) := by decide +kernel
theorem dX6_begin_32 : decode cX6_begin 32 = .ok (.aload_n 0, 1) := by decide +kernel
theorem dX6_begin_33 : decode cX6_begin 33 = .ok (.getfield 21, 3) := by decide +kernel
theorem dX6_begin_36 : decode cX6_begin 36 = .ok (.arraylength, 1) := by decide +kernel
theorem dX6_begin_37 : decode cX6_begin 37 = .ok (.if_icmp .ge 30, 3) := by decide +kernel
theorem dX6_begin_40 : decode cX6_begin 40 = .ok (.iload_n 2, 1) := by decide +kernel
theorem dX6_begin_41 : decode cX6_begin 41 = .ok (.aload_n 0, 1) := by decide +kernel
theorem dX6_begin_42 : decode cX6_begin 42 = .ok (.getfield 15, 3) := by decide +kernel
theorem dX6_begin_45 : decode cX6_begin 45 = .ok (.arraylength, 1) := by decide +kernel
theorem dX6_begin_46 : decode cX6_begin 46 = .ok (.if_icmp .ge 21, 3) := by decide +kernel
theorem dX6_begin_49 : decode cX6_begin 49 = .ok (.aload_n 0, 1) := by decide +kernel
theorem dX6_begin_50 : decode cX6_begin 50 = .ok (.getfield 21, 3) := by decide +kernel
theorem dX6_begin_53 : decode cX6_begin 53 = .ok (.iload_n 2, 1) := by decide +kernel
theorem dX6_begin_54 : decode cX6_begin 54 = .ok (.aload_n 0, 1) := by decide +kernel
theorem dX6_begin_55 : decode cX6_begin 55 = .ok (.getfield 15, 3) := by decide +kernel
theorem dX6_begin_58 : decode cX6_begin 58 = .ok (.iload_n 2, 1) := by decide +kernel
theorem dX6_begin_59 : decode cX6_begin 59 = .ok (.iaload, 1) := by decide +kernel
theorem dX6_begin_60 : decode cX6_begin 60 = .ok (.iastore, 1) := by decide +kernel
theorem dX6_begin_61 : decode cX6_begin 61 = .ok (.iinc 2 1, 3) := by decide +kernel
theorem dX6_begin_64 : decode cX6_begin 64 = .ok (.goto (-38), 3) := by decide +kernel
theorem dX6_begin_67 : decode cX6_begin 67 = .ok (.return_, 1) := by decide +kernel
theorem dX6_makeList_0 : decode cX6_makeList 0 = .ok (.iload_n 2, 1) := by decide +kernel
theorem dX6_makeList_1 : decode cX6_makeList 1 = .ok (.aload_n 0, 1) := by decide +kernel
theorem dX6_makeList_2 : decode cX6_makeList 2 = .ok (.getfield 15, 3) := by decide +kernel
theorem dX6_makeList_5 : decode cX6_makeList 5 = .ok (.arraylength, 1) := by decide +kernel
theorem dX6_makeList_6 : decode cX6_makeList 6 = .ok (.invokestatic 61, 3) := by decide +kernel
theorem dX6_makeList_9 : decode cX6_makeList 9 = .ok (.istore 4, 2) := by decide +kernel
theorem dX6_makeList_11 : decode cX6_makeList 11 = .ok (.iload_n 3, 1) := by decide +kernel
theorem dX6_makeList_12 : decode cX6_makeList 12 = .ok (.aload_n 0, 1) := by decide +kernel
theorem dX6_makeList_13 : decode cX6_makeList 13 = .ok (.getfield 21, 3) := by decide +kernel
theorem dX6_makeList_16 : decode cX6_makeList 16 = .ok (.arraylength, 1) := by decide +kernel
theorem dX6_makeList_17 : decode cX6_makeList 17 = .ok (.invokestatic 61, 3) := by decide +kernel
theorem dX6_makeList_20 : decode cX6_makeList 20 = .ok (.iconst 2, 1) := by decide +kernel
theorem dX6_makeList_21 : decode cX6_makeList 21 = .ok (.idiv, 1) := by decide +kernel
theorem dX6_makeList_22 : decode cX6_makeList 22 = .ok (.istore 5, 2) := by decide +kernel
theorem dX6_makeList_24 : decode cX6_makeList 24 = .ok (.iload_n 1, 1) := by decide +kernel
theorem dX6_makeList_25 : decode cX6_makeList 25 = .ok (.iconst 0, 1) := by decide +kernel
theorem dX6_makeList_26 : decode cX6_makeList 26 = .ok (.invokestatic 66, 3) := by decide +kernel
theorem dX6_makeList_29 : decode cX6_makeList 29 = .ok (.sipush 576, 3) := by decide +kernel
theorem dX6_makeList_32 : decode cX6_makeList 32 = .ok (.imul, 1) := by decide +kernel
theorem dX6_makeList_33 : decode cX6_makeList 33 = .ok (.istore 6, 2) := by decide +kernel
theorem dX6_makeList_35 : decode cX6_makeList 35 = .ok (.iconst 0, 1) := by decide +kernel
theorem dX6_makeList_36 : decode cX6_makeList 36 = .ok (.istore 7, 2) := by decide +kernel
theorem dX6_makeList_38 : decode cX6_makeList 38 = .ok (.iconst 0, 1) := by decide +kernel
theorem dX6_makeList_39 : decode cX6_makeList 39 = .ok (.istore 8, 2) := by decide +kernel
theorem dX6_makeList_41 : decode cX6_makeList 41 = .ok (.iconst 0, 1) := by decide +kernel
theorem dX6_makeList_42 : decode cX6_makeList 42 = .ok (.istore 9, 2) := by decide +kernel
theorem dX6_makeList_44 : decode cX6_makeList 44 = .ok (.iload 9, 2) := by decide +kernel
theorem dX6_makeList_46 : decode cX6_makeList 46 = .ok (.aload_n 0, 1) := by decide +kernel
theorem dX6_makeList_47 : decode cX6_makeList 47 = .ok (.getfield 24, 3) := by decide +kernel
theorem dX6_makeList_50 : decode cX6_makeList 50 = .ok (.arraylength, 1) := by decide +kernel
theorem dX6_makeList_51 : decode cX6_makeList 51 = .ok (.if_icmp .ge 177, 3) := by decide +kernel
theorem dX6_makeList_54 : decode cX6_makeList 54 = .ok (.iload 7, 2) := by decide +kernel
theorem dX6_makeList_56 : decode cX6_makeList 56 = .ok (.iload 4, 2) := by decide +kernel
theorem dX6_makeList_58 : decode cX6_makeList 58 = .ok (.if_icmp .lt 10, 3) := by decide +kernel
theorem dX6_makeList_61 : decode cX6_makeList 61 = .ok (.iload 8, 2) := by decide +kernel
theorem dX6_makeList_63 : decode cX6_makeList 63 = .ok (.iload 5, 2) := by decide +kernel
theorem dX6_makeList_65 : decode cX6_makeList 65 = .ok (.if_icmp .ge 163, 3) := by decide +kernel
theorem dX6_makeList_68 : decode cX6_makeList 68 = .ok (.iload 8, 2) := by decide +kernel
theorem dX6_makeList_70 : decode cX6_makeList 70 = .ok (.iload 5, 2) := by decide +kernel
theorem dX6_makeList_72 : decode cX6_makeList 72 = .ok (.if_icmp .ge 27, 3) := by decide +kernel
theorem dX6_makeList_75 : decode cX6_makeList 75 = .ok (.aload_n 0, 1) := by decide +kernel
theorem dX6_makeList_76 : decode cX6_makeList 76 = .ok (.getfield 21, 3) := by decide +kernel
theorem dX6_makeList_79 : decode cX6_makeList 79 = .ok (.iconst 2, 1) := by decide +kernel
theorem dX6_makeList_80 : decode cX6_makeList 80 = .ok (.iload 8, 2) := by decide +kernel
theorem dX6_makeList_82 : decode cX6_makeList 82 = .ok (.imul, 1) := by decide +kernel
theorem dX6_makeList_83 : decode cX6_makeList 83 = .ok (.iaload, 1) := by decide +kernel
theorem dX6_makeList_84 : decode cX6_makeList 84 = .ok (.aload_n 0, 1) := by decide +kernel
theorem dX6_makeList_85 : decode cX6_makeList 85 = .ok (.getfield 21, 3) := by decide +kernel
theorem dX6_makeList_88 : decode cX6_makeList 88 = .ok (.iconst 2, 1) := by decide +kernel
theorem dX6_makeList_89 : decode cX6_makeList 89 = .ok (.iload 8, 2) := by decide +kernel
theorem dX6_makeList_91 : decode cX6_makeList 91 = .ok (.imul, 1) := by decide +kernel
theorem dX6_makeList_92 : decode cX6_makeList 92 = .ok (.iconst 1, 1) := by decide +kernel
theorem dX6_makeList_93 : decode cX6_makeList 93 = .ok (.iadd, 1) := by decide +kernel
theorem dX6_makeList_94 : decode cX6_makeList 94 = .ok (.iaload, 1) := by decide +kernel
theorem dX6_makeList_95 : decode cX6_makeList 95 = .ok (.iadd, 1) := by decide +kernel
theorem dX6_makeList_96 : decode cX6_makeList 96 = .ok (.goto 4, 3) := by decide +kernel
theorem dX6_makeList_99 : decode cX6_makeList 99 = .ok (.iconst 0, 1) := by decide +kernel
theorem dX6_makeList_100 : decode cX6_makeList 100 = .ok (.istore 10, 2) := by decide +kernel
theorem dX6_makeList_102 : decode cX6_makeList 102 = .ok (.iload 7, 2) := by decide +kernel
theorem dX6_makeList_104 : decode cX6_makeList 104 = .ok (.iload 4, 2) := by decide +kernel
theorem dX6_makeList_106 : decode cX6_makeList 106 = .ok (.if_icmp .ge 26, 3) := by decide +kernel
theorem dX6_makeList_109 : decode cX6_makeList 109 = .ok (.iload 8, 2) := by decide +kernel
theorem dX6_makeList_111 : decode cX6_makeList 111 = .ok (.iload 5, 2) := by decide +kernel
theorem dX6_makeList_113 : decode cX6_makeList 113 = .ok (.if_icmp .ge 15, 3) := by decide +kernel
theorem dX6_makeList_116 : decode cX6_makeList 116 = .ok (.aload_n 0, 1) := by decide +kernel
theorem dX6_makeList_117 : decode cX6_makeList 117 = .ok (.getfield 15, 3) := by decide +kernel
theorem dX6_makeList_120 : decode cX6_makeList 120 = .ok (.iload 7, 2) := by decide +kernel
theorem dX6_makeList_122 : decode cX6_makeList 122 = .ok (.iaload, 1) := by decide +kernel
theorem dX6_makeList_123 : decode cX6_makeList 123 = .ok (.iload 10, 2) := by decide +kernel
theorem dX6_makeList_125 : decode cX6_makeList 125 = .ok (.if_icmp .gt 7, 3) := by decide +kernel
theorem dX6_makeList_128 : decode cX6_makeList 128 = .ok (.iconst 1, 1) := by decide +kernel
theorem dX6_makeList_129 : decode cX6_makeList 129 = .ok (.goto 4, 3) := by decide +kernel
theorem dX6_makeList_132 : decode cX6_makeList 132 = .ok (.iconst 0, 1) := by decide +kernel
theorem dX6_makeList_133 : decode cX6_makeList 133 = .ok (.istore 11, 2) := by decide +kernel
theorem dX6_makeList_135 : decode cX6_makeList 135 = .ok (.aload_n 0, 1) := by decide +kernel
theorem dX6_makeList_136 : decode cX6_makeList 136 = .ok (.getfield 24, 3) := by decide +kernel
theorem dX6_makeList_139 : decode cX6_makeList 139 = .ok (.iload 9, 2) := by decide +kernel
theorem dX6_makeList_141 : decode cX6_makeList 141 = .ok (.iload 11, 2) := by decide +kernel
theorem dX6_makeList_143 : decode cX6_makeList 143 = .ok (.ifCond .eq 13, 3) := by decide +kernel
theorem dX6_makeList_146 : decode cX6_makeList 146 = .ok (.aload_n 0, 1) := by decide +kernel
theorem dX6_makeList_147 : decode cX6_makeList 147 = .ok (.getfield 15, 3) := by decide +kernel
theorem dX6_makeList_150 : decode cX6_makeList 150 = .ok (.iload 7, 2) := by decide +kernel
theorem dX6_makeList_152 : decode cX6_makeList 152 = .ok (.iaload, 1) := by decide +kernel
theorem dX6_makeList_153 : decode cX6_makeList 153 = .ok (.goto 5, 3) := by decide +kernel
theorem dX6_makeList_156 : decode cX6_makeList 156 = .ok (.iload 10, 2) := by decide +kernel
theorem dX6_makeList_158 : decode cX6_makeList 158 = .ok (.iastore, 1) := by decide +kernel
theorem dX6_makeList_159 : decode cX6_makeList 159 = .ok (.iload 6, 2) := by decide +kernel
theorem dX6_makeList_161 : decode cX6_makeList 161 = .ok (.iload 9, 2) := by decide +kernel
theorem dX6_makeList_163 : decode cX6_makeList 163 = .ok (.iadd, 1) := by decide +kernel
theorem dX6_makeList_164 : decode cX6_makeList 164 = .ok (.aload_n 0, 1) := by decide +kernel
theorem dX6_makeList_165 : decode cX6_makeList 165 = .ok (.getfield 27, 3) := by decide +kernel
theorem dX6_makeList_168 : decode cX6_makeList 168 = .ok (.arraylength, 1) := by decide +kernel
theorem dX6_makeList_169 : decode cX6_makeList 169 = .ok (.if_icmp .ge 23, 3) := by decide +kernel
theorem dX6_makeList_172 : decode cX6_makeList 172 = .ok (.aload_n 0, 1) := by decide +kernel
theorem dX6_makeList_173 : decode cX6_makeList 173 = .ok (.getfield 27, 3) := by decide +kernel
theorem dX6_makeList_176 : decode cX6_makeList 176 = .ok (.iload 6, 2) := by decide +kernel
theorem dX6_makeList_178 : decode cX6_makeList 178 = .ok (.iload 9, 2) := by decide +kernel
theorem dX6_makeList_180 : decode cX6_makeList 180 = .ok (.iadd, 1) := by decide +kernel
theorem dX6_makeList_181 : decode cX6_makeList 181 = .ok (.iload 11, 2) := by decide +kernel
theorem dX6_makeList_183 : decode cX6_makeList 183 = .ok (.ifCond .ne 7, 3) := by decide +kernel
theorem dX6_makeList_186 : decode cX6_makeList 186 = .ok (.iconst 1, 1) := by decide +kernel
theorem dX6_makeList_187 : decode cX6_makeList 187 = .ok (.goto 4, 3) := by decide +kernel
theorem dX6_makeList_190 : decode cX6_makeList 190 = .ok (.iconst 0, 1) := by decide +kernel
theorem dX6_makeList_191 : decode cX6_makeList 191 = .ok (.bastore, 1) := by decide +kernel
theorem dX6_makeList_192 : decode cX6_makeList 192 = .ok (.iload 7, 2) := by decide +kernel
theorem dX6_makeList_194 : decode cX6_makeList 194 = .ok (.iload 11, 2) := by decide +kernel
theorem dX6_makeList_196 : decode cX6_makeList 196 = .ok (.ifCond .eq 7, 3) := by decide +kernel
theorem dX6_makeList_199 : decode cX6_makeList 199 = .ok (.iconst 1, 1) := by decide +kernel
theorem dX6_makeList_200 : decode cX6_makeList 200 = .ok (.goto 4, 3) := by decide +kernel
theorem dX6_makeList_203 : decode cX6_makeList 203 = .ok (.iconst 0, 1) := by decide +kernel
theorem dX6_makeList_204 : decode cX6_makeList 204 = .ok (.iadd, 1) := by decide +kernel
theorem dX6_makeList_205 : decode cX6_makeList 205 = .ok (.istore 7, 2) := by decide +kernel
theorem dX6_makeList_207 : decode cX6_makeList 207 = .ok (.iload 8, 2) := by decide +kernel
theorem dX6_makeList_209 : decode cX6_makeList 209 = .ok (.iload 11, 2) := by decide +kernel
theorem dX6_makeList_211 : decode cX6_makeList 211 = .ok (.ifCond .eq 7, 3) := by decide +kernel
theorem dX6_makeList_214 : decode cX6_makeList 214 = .ok (.iconst 0, 1) := by decide +kernel
theorem dX6_makeList_215 : decode cX6_makeList 215 = .ok (.goto 4, 3) := by decide +kernel
theorem dX6_makeList_218 : decode cX6_makeList 218 = .ok (.iconst 1, 1) := by decide +kernel
theorem dX6_makeList_219 : decode cX6_makeList 219 = .ok (.iadd, 1) := by decide +kernel
theorem dX6_makeList_220 : decode cX6_makeList 220 = .ok (.istore 8, 2) := by decide +kernel
theorem dX6_makeList_222 : decode cX6_makeList 222 = .ok (.iinc 9 1, 3) := by decide +kernel
theorem dX6_makeList_225 : decode cX6_makeList 225 = .ok (.goto (-181), 3) := by decide +kernel
theorem dX6_makeList_228 : decode cX6_makeList 228 = .ok (.iconst 0, 1) := by decide +kernel
theorem dX6_makeList_229 : decode cX6_makeList 229 = .ok (.istore 10, 2) := by decide +kernel
theorem dX6_makeList_231 : decode cX6_makeList 231 = .ok (.iload 10, 2) := by decide +kernel
theorem dX6_makeList_233 : decode cX6_makeList 233 = .ok (.iload 9, 2) := by decide +kernel
theorem dX6_makeList_235 : decode cX6_makeList 235 = .ok (.if_icmp .ge 33, 3) := by decide +kernel
theorem dX6_makeList_238 : decode cX6_makeList 238 = .ok (.iload 10, 2) := by decide +kernel
theorem dX6_makeList_240 : decode cX6_makeList 240 = .ok (.aload_n 0, 1) := by decide +kernel
theorem dX6_makeList_241 : decode cX6_makeList 241 = .ok (.getfield 21, 3) := by decide +kernel
theorem dX6_makeList_244 : decode cX6_makeList 244 = .ok (.arraylength, 1) := by decide +kernel
theorem dX6_makeList_245 : decode cX6_makeList 245 = .ok (.if_icmp .ge 23, 3) := by decide +kernel
theorem dX6_makeList_248 : decode cX6_makeList 248 = .ok (.aload_n 0, 1) := by decide +kernel
theorem dX6_makeList_249 : decode cX6_makeList 249 = .ok (.getfield 21, 3) := by decide +kernel
theorem dX6_makeList_252 : decode cX6_makeList 252 = .ok (.iload 10, 2) := by decide +kernel
theorem dX6_makeList_254 : decode cX6_makeList 254 = .ok (.aload_n 0, 1) := by decide +kernel
theorem dX6_makeList_255 : decode cX6_makeList 255 = .ok (.getfield 24, 3) := by decide +kernel
theorem dX6_makeList_258 : decode cX6_makeList 258 = .ok (.iload 10, 2) := by decide +kernel
theorem dX6_makeList_260 : decode cX6_makeList 260 = .ok (.iaload, 1) := by decide +kernel
theorem dX6_makeList_261 : decode cX6_makeList 261 = .ok (.iastore, 1) := by decide +kernel
theorem dX6_makeList_262 : decode cX6_makeList 262 = .ok (.iinc 10 1, 3) := by decide +kernel
theorem dX6_makeList_265 : decode cX6_makeList 265 = .ok (.goto (-34), 3) := by decide +kernel
theorem dX6_makeList_268 : decode cX6_makeList 268 = .ok (.iload 9, 2) := by decide +kernel
theorem dX6_makeList_270 : decode cX6_makeList 270 = .ok (.ireturn, 1) := by decide +kernel
theorem dX6_takeItems_0 : decode cX6_takeItems 0 = .ok (.iconst 0, 1) := by decide +kernel
theorem dX6_takeItems_1 : decode cX6_takeItems 1 = .ok (.istore_n 3, 1) := by decide +kernel
theorem dX6_takeItems_2 : decode cX6_takeItems 2 = .ok (.iconst 0, 1) := by decide +kernel
theorem dX6_takeItems_3 : decode cX6_takeItems 3 = .ok (.istore 4, 2) := by decide +kernel
theorem dX6_takeItems_5 : decode cX6_takeItems 5 = .ok (.iload_n 1, 1) := by decide +kernel
theorem dX6_takeItems_6 : decode cX6_takeItems 6 = .ok (.iconst 0, 1) := by decide +kernel
theorem dX6_takeItems_7 : decode cX6_takeItems 7 = .ok (.invokestatic 66, 3) := by decide +kernel
theorem dX6_takeItems_10 : decode cX6_takeItems 10 = .ok (.sipush 576, 3) := by decide +kernel
theorem dX6_takeItems_13 : decode cX6_takeItems 13 = .ok (.imul, 1) := by decide +kernel
theorem dX6_takeItems_14 : decode cX6_takeItems 14 = .ok (.istore 5, 2) := by decide +kernel
theorem dX6_takeItems_16 : decode cX6_takeItems 16 = .ok (.iconst 0, 1) := by decide +kernel
theorem dX6_takeItems_17 : decode cX6_takeItems 17 = .ok (.istore 6, 2) := by decide +kernel
theorem dX6_takeItems_19 : decode cX6_takeItems 19 = .ok (.iload 6, 2) := by decide +kernel
theorem dX6_takeItems_21 : decode cX6_takeItems 21 = .ok (.iload_n 2, 1) := by decide +kernel
theorem dX6_takeItems_22 : decode cX6_takeItems 22 = .ok (.if_icmp .ge 52, 3) := by decide +kernel
theorem dX6_takeItems_25 : decode cX6_takeItems 25 = .ok (.iload 6, 2) := by decide +kernel
theorem dX6_takeItems_27 : decode cX6_takeItems 27 = .ok (.sipush 576, 3) := by decide +kernel
theorem dX6_takeItems_30 : decode cX6_takeItems 30 = .ok (.if_icmp .ge 44, 3) := by decide +kernel
theorem dX6_takeItems_33 : decode cX6_takeItems 33 = .ok (.iload 5, 2) := by decide +kernel
theorem dX6_takeItems_35 : decode cX6_takeItems 35 = .ok (.iload 6, 2) := by decide +kernel
theorem dX6_takeItems_37 : decode cX6_takeItems 37 = .ok (.iadd, 1) := by decide +kernel
theorem dX6_takeItems_38 : decode cX6_takeItems 38 = .ok (.aload_n 0, 1) := by decide +kernel
theorem dX6_takeItems_39 : decode cX6_takeItems 39 = .ok (.getfield 27, 3) := by decide +kernel
theorem dX6_takeItems_42 : decode cX6_takeItems 42 = .ok (.arraylength, 1) := by decide +kernel
theorem dX6_takeItems_43 : decode cX6_takeItems 43 = .ok (.if_icmp .ge 31, 3) := by decide +kernel
theorem dX6_takeItems_46 : decode cX6_takeItems 46 = .ok (.aload_n 0, 1) := by decide +kernel
theorem dX6_takeItems_47 : decode cX6_takeItems 47 = .ok (.getfield 27, 3) := by decide +kernel
theorem dX6_takeItems_50 : decode cX6_takeItems 50 = .ok (.iload 5, 2) := by decide +kernel
theorem dX6_takeItems_52 : decode cX6_takeItems 52 = .ok (.iload 6, 2) := by decide +kernel
theorem dX6_takeItems_54 : decode cX6_takeItems 54 = .ok (.iadd, 1) := by decide +kernel
theorem dX6_takeItems_55 : decode cX6_takeItems 55 = .ok (.baload, 1) := by decide +kernel
theorem dX6_takeItems_56 : decode cX6_takeItems 56 = .ok (.ifCond .eq 9, 3) := by decide +kernel
theorem dX6_takeItems_59 : decode cX6_takeItems 59 = .ok (.iinc 4 1, 3) := by decide +kernel
theorem dX6_takeItems_62 : decode cX6_takeItems 62 = .ok (.goto 6, 3) := by decide +kernel
theorem dX6_takeItems_65 : decode cX6_takeItems 65 = .ok (.iinc 3 1, 3) := by decide +kernel
theorem dX6_takeItems_68 : decode cX6_takeItems 68 = .ok (.iinc 6 1, 3) := by decide +kernel
theorem dX6_takeItems_71 : decode cX6_takeItems 71 = .ok (.goto (-52), 3) := by decide +kernel
theorem dX6_takeItems_74 : decode cX6_takeItems 74 = .ok (.iconst 0, 1) := by decide +kernel
theorem dX6_takeItems_75 : decode cX6_takeItems 75 = .ok (.istore 6, 2) := by decide +kernel
theorem dX6_takeItems_77 : decode cX6_takeItems 77 = .ok (.iload 6, 2) := by decide +kernel
theorem dX6_takeItems_79 : decode cX6_takeItems 79 = .ok (.iload_n 3, 1) := by decide +kernel
theorem dX6_takeItems_80 : decode cX6_takeItems 80 = .ok (.if_icmp .ge 30, 3) := by decide +kernel
theorem dX6_takeItems_83 : decode cX6_takeItems 83 = .ok (.iload 6, 2) := by decide +kernel
theorem dX6_takeItems_85 : decode cX6_takeItems 85 = .ok (.aload_n 0, 1) := by decide +kernel
theorem dX6_takeItems_86 : decode cX6_takeItems 86 = .ok (.getfield 18, 3) := by decide +kernel
theorem dX6_takeItems_89 : decode cX6_takeItems 89 = .ok (.arraylength, 1) := by decide +kernel
theorem dX6_takeItems_90 : decode cX6_takeItems 90 = .ok (.if_icmp .ge 20, 3) := by decide +kernel
theorem dX6_takeItems_93 : decode cX6_takeItems 93 = .ok (.aload_n 0, 1) := by decide +kernel
theorem dX6_takeItems_94 : decode cX6_takeItems 94 = .ok (.getfield 18, 3) := by decide +kernel
theorem dX6_takeItems_97 : decode cX6_takeItems 97 = .ok (.iload 6, 2) := by decide +kernel
theorem dX6_takeItems_99 : decode cX6_takeItems 99 = .ok (.dup2, 1) := by decide +kernel
theorem dX6_takeItems_100 : decode cX6_takeItems 100 = .ok (.iaload, 1) := by decide +kernel
theorem dX6_takeItems_101 : decode cX6_takeItems 101 = .ok (.iconst 1, 1) := by decide +kernel
theorem dX6_takeItems_102 : decode cX6_takeItems 102 = .ok (.iadd, 1) := by decide +kernel
theorem dX6_takeItems_103 : decode cX6_takeItems 103 = .ok (.iastore, 1) := by decide +kernel
theorem dX6_takeItems_104 : decode cX6_takeItems 104 = .ok (.iinc 6 1, 3) := by decide +kernel
theorem dX6_takeItems_107 : decode cX6_takeItems 107 = .ok (.goto (-30), 3) := by decide +kernel
theorem dX6_takeItems_110 : decode cX6_takeItems 110 = .ok (.iconst 2, 1) := by decide +kernel
theorem dX6_takeItems_111 : decode cX6_takeItems 111 = .ok (.iload 4, 2) := by decide +kernel
theorem dX6_takeItems_113 : decode cX6_takeItems 113 = .ok (.imul, 1) := by decide +kernel
theorem dX6_takeItems_114 : decode cX6_takeItems 114 = .ok (.ireturn, 1) := by decide +kernel
theorem dX7_init_0 : decode cX7_init 0 = .ok (.aload_n 0, 1) := by decide +kernel
theorem dX7_init_1 : decode cX7_init 1 = .ok (.invokespecial 3, 3) := by decide +kernel
theorem dX7_init_4 : decode cX7_init 4 = .ok (.aload_n 0, 1) := by decide +kernel
theorem dX7_init_5 : decode cX7_init 5 = .ok (.ldc 11, 2) := by decide +kernel
theorem dX7_init_7 : decode cX7_init 7 = .ok (.newarray .int, 2) := by decide +kernel
theorem dX7_init_9 : decode cX7_init 9 = .ok (.putfield 12, 3) := by decide +kernel
theorem dX7_init_12 : decode cX7_init 12 = .ok (.aload_n 0, 1) := by decide +kernel
theorem dX7_init_13 : decode cX7_init 13 = .ok (.ldc 16, 2) := by decide +kernel
theorem dX7_init_15 : decode cX7_init 15 = .ok (.newarray .int, 2) := by decide +kernel
theorem dX7_init_17 : decode cX7_init 17 = .ok (.putfield 17, 3) := by decide +kernel
theorem dX7_init_20 : decode cX7_init 20 = .ok (.aload_n 0, 1) := by decide +kernel
theorem dX7_init_21 : decode cX7_init 21 = .ok (.iconst 1, 1) := by decide +kernel
theorem dX7_init_22 : decode cX7_init 22 = .ok (.putfield 20, 3) := by decide +kernel
theorem dX7_init_25 : decode cX7_init 25 = .ok (.return_, 1) := by decide +kernel
theorem dX7_begin_0 : decode cX7_begin 0 = .ok (.aload_n 0, 1) := by decide +kernel
theorem dX7_begin_1 : decode cX7_begin 1 = .ok (.dup, 1) := by decide +kernel
theorem dX7_begin_2 : decode cX7_begin 2 = .ok (.getfield 20, 3) := by decide +kernel
theorem dX7_begin_5 : decode cX7_begin 5 = .ok (.aload_n 0, 1) := by decide +kernel
theorem dX7_begin_6 : decode cX7_begin 6 = .ok (.getfield 24, 3) := by decide +kernel
theorem dX7_begin_9 : decode cX7_begin 9 = .ok (.aload_n 0, 1) := by decide +kernel
theorem dX7_begin_10 : decode cX7_begin 10 = .ok (.getfield 27, 3) := by decide +kernel
theorem dX7_begin_13 : decode cX7_begin 13 = .ok (.isub, 1) := by decide +kernel
theorem dX7_begin_14 : decode cX7_begin 14 = .ok (.iadd, 1) := by decide +kernel
theorem dX7_begin_15 : decode cX7_begin 15 = .ok (.putfield 20, 3) := by decide +kernel
theorem dX7_begin_18 : decode cX7_begin 18 = .ok (.aload_n 0, 1) := by decide +kernel
theorem dX7_begin_19 : decode cX7_begin 19 = .ok (.iload_n 1, 1) := by decide +kernel
theorem dX7_begin_20 : decode cX7_begin 20 = .ok (.putfield 27, 3) := by decide +kernel
theorem dX7_begin_23 : decode cX7_begin 23 = .ok (.aload_n 0, 1) := by decide +kernel
theorem dX7_begin_24 : decode cX7_begin 24 = .ok (.iload_n 1, 1) := by decide +kernel
theorem dX7_begin_25 : decode cX7_begin 25 = .ok (.iload_n 2, 1) := by decide +kernel
theorem dX7_begin_26 : decode cX7_begin 26 = .ok (.iadd, 1) := by decide +kernel
theorem dX7_begin_27 : decode cX7_begin 27 = .ok (.putfield 24, 3) := by decide +kernel
theorem dX7_begin_30 : decode cX7_begin 30 = .ok (.return_, 1) := by decide +kernel
theorem dX7_headOf_0 : decode cX7_headOf 0 = .ok (.iload_n 0, 1) := by decide +kernel
theorem dX7_headOf_1 : decode cX7_headOf 1 = .ok (.ldc 30, 2) := by decide +kernel
theorem dX7_headOf_3 : decode cX7_headOf 3 = .ok (.imul, 1) := by decide +kernel
theorem dX7_headOf_4 : decode cX7_headOf 4 = .ok (.bipush 17, 2) := by decide +kernel
theorem dX7_headOf_6 : decode cX7_headOf 6 = .ok (.iushr, 1) := by decide +kernel
theorem dX7_headOf_7 : decode cX7_headOf 7 = .ok (.ireturn, 1) := by decide +kernel
theorem dX7_know_0 : decode cX7_know 0 = .ok (.aload_n 1, 1) := by decide +kernel
theorem dX7_know_1 : decode cX7_know 1 = .ok (.iload_n 2, 1) := by decide +kernel
theorem dX7_know_2 : decode cX7_know 2 = .ok (.invokevirtual 31, 3) := by decide +kernel
theorem dX7_know_5 : decode cX7_know 5 = .ok (.invokestatic 37, 3) := by decide +kernel
theorem dX7_know_8 : decode cX7_know 8 = .ok (.istore_n 3, 1) := by decide +kernel
theorem dX7_know_9 : decode cX7_know 9 = .ok (.iload_n 2, 1) := by decide +kernel
theorem dX7_know_10 : decode cX7_know 10 = .ok (.aload_n 0, 1) := by decide +kernel
theorem dX7_know_11 : decode cX7_know 11 = .ok (.getfield 27, 3) := by decide +kernel
theorem dX7_know_14 : decode cX7_know 14 = .ok (.isub, 1) := by decide +kernel
theorem dX7_know_15 : decode cX7_know 15 = .ok (.istore 4, 2) := by decide +kernel
theorem dX7_know_17 : decode cX7_know 17 = .ok (.iload_n 2, 1) := by decide +kernel
theorem dX7_know_18 : decode cX7_know 18 = .ok (.iconst 3, 1) := by decide +kernel
theorem dX7_know_19 : decode cX7_know 19 = .ok (.iadd, 1) := by decide +kernel
theorem dX7_know_20 : decode cX7_know 20 = .ok (.aload_n 0, 1) := by decide +kernel
theorem dX7_know_21 : decode cX7_know 21 = .ok (.getfield 24, 3) := by decide +kernel
theorem dX7_know_24 : decode cX7_know 24 = .ok (.if_icmp .gt 31, 3) := by decide +kernel
theorem dX7_know_27 : decode cX7_know 27 = .ok (.iload 4, 2) := by decide +kernel
theorem dX7_know_29 : decode cX7_know 29 = .ok (.ifCond .lt 26, 3) := by decide +kernel
theorem dX7_know_32 : decode cX7_know 32 = .ok (.iload 4, 2) := by decide +kernel
theorem dX7_know_34 : decode cX7_know 34 = .ok (.aload_n 0, 1) := by decide +kernel
theorem dX7_know_35 : decode cX7_know 35 = .ok (.getfield 17, 3) := by decide +kernel
theorem dX7_know_38 : decode cX7_know 38 = .ok (.arraylength, 1) := by decide +kernel
theorem dX7_know_39 : decode cX7_know 39 = .ok (.if_icmp .ge 16, 3) := by decide +kernel
theorem dX7_know_42 : decode cX7_know 42 = .ok (.iload_n 3, 1) := by decide +kernel
theorem dX7_know_43 : decode cX7_know 43 = .ok (.ifCond .lt 12, 3) := by decide +kernel
theorem dX7_know_46 : decode cX7_know 46 = .ok (.iload_n 3, 1) := by decide +kernel
theorem dX7_know_47 : decode cX7_know 47 = .ok (.aload_n 0, 1) := by decide +kernel
theorem dX7_know_48 : decode cX7_know 48 = .ok (.getfield 12, 3) := by decide +kernel
theorem dX7_know_51 : decode cX7_know 51 = .ok (.arraylength, 1) := by decide +kernel
theorem dX7_know_52 : decode cX7_know 52 = .ok (.if_icmp .lt 4, 3) := by decide +kernel
theorem dX7_know_55 : decode cX7_know 55 = .ok (.return_, 1) := by decide +kernel
theorem dX7_know_56 : decode cX7_know 56 = .ok (.aload_n 0, 1) := by decide +kernel
theorem dX7_know_57 : decode cX7_know 57 = .ok (.getfield 17, 3) := by decide +kernel
theorem dX7_know_60 : decode cX7_know 60 = .ok (.iload 4, 2) := by decide +kernel
theorem dX7_know_62 : decode cX7_know 62 = .ok (.aload_n 0, 1) := by decide +kernel
theorem dX7_know_63 : decode cX7_know 63 = .ok (.getfield 12, 3) := by decide +kernel
theorem dX7_know_66 : decode cX7_know 66 = .ok (.iload_n 3, 1) := by decide +kernel
theorem dX7_know_67 : decode cX7_know 67 = .ok (.iaload, 1) := by decide +kernel
theorem dX7_know_68 : decode cX7_know 68 = .ok (.aload_n 0, 1) := by decide +kernel
theorem dX7_know_69 : decode cX7_know 69 = .ok (.getfield 20, 3) := by decide +kernel
theorem dX7_know_72 : decode cX7_know 72 = .ok (.isub, 1) := by decide +kernel
theorem dX7_know_73 : decode cX7_know 73 = .ok (.iastore, 1) := by decide +kernel
theorem dX7_know_74 : decode cX7_know 74 = .ok (.aload_n 0, 1) := by decide +kernel
theorem dX7_know_75 : decode cX7_know 75 = .ok (.getfield 12, 3) := by decide +kernel
theorem dX7_know_78 : decode cX7_know 78 = .ok (.iload_n 3, 1) := by decide +kernel
theorem dX7_know_79 : decode cX7_know 79 = .ok (.aload_n 0, 1) := by decide +kernel
theorem dX7_know_80 : decode cX7_know 80 = .ok (.getfield 20, 3) := by decide +kernel
theorem dX7_know_83 : decode cX7_know 83 = .ok (.iload 4, 2) := by decide +kernel
theorem dX7_know_85 : decode cX7_know 85 = .ok (.iadd, 1) := by decide +kernel
theorem dX7_know_86 : decode cX7_know 86 = .ok (.iastore, 1) := by decide +kernel
theorem dX7_know_87 : decode cX7_know 87 = .ok (.return_, 1) := by decide +kernel
theorem dX7_find_0 : decode cX7_find 0 = .ok (.aload_n 0, 1) := by decide +kernel
theorem dX7_find_1 : decode cX7_find 1 = .ok (.iconst 0, 1) := by decide +kernel
theorem dX7_find_2 : decode cX7_find 2 = .ok (.putfield 40, 3) := by decide +kernel
theorem dX7_find_5 : decode cX7_find 5 = .ok (.aload_n 0, 1) := by decide +kernel
theorem dX7_find_6 : decode cX7_find 6 = .ok (.iconst 0, 1) := by decide +kernel
theorem dX7_find_7 : decode cX7_find 7 = .ok (.putfield 43, 3) := by decide +kernel
theorem dX7_find_10 : decode cX7_find 10 = .ok (.sipush 258, 3) := by decide +kernel
theorem dX7_find_13 : decode cX7_find 13 = .ok (.iload_n 3, 1) := by decide +kernel
theorem dX7_find_14 : decode cX7_find 14 = .ok (.iload_n 2, 1) := by decide +kernel
theorem dX7_find_15 : decode cX7_find 15 = .ok (.isub, 1) := by decide +kernel
theorem dX7_find_16 : decode cX7_find 16 = .ok (.invokestatic 46, 3) := by decide +kernel
theorem dX7_find_19 : decode cX7_find 19 = .ok (.istore 4, 2) := by decide +kernel
theorem dX7_find_21 : decode cX7_find 21 = .ok (.aload_n 1, 1) := by decide +kernel
theorem dX7_find_22 : decode cX7_find 22 = .ok (.iload_n 2, 1) := by decide +kernel
theorem dX7_find_23 : decode cX7_find 23 = .ok (.invokevirtual 31, 3) := by decide +kernel
theorem dX7_find_26 : decode cX7_find 26 = .ok (.invokestatic 37, 3) := by decide +kernel
theorem dX7_find_29 : decode cX7_find 29 = .ok (.istore 5, 2) := by decide +kernel
theorem dX7_find_31 : decode cX7_find 31 = .ok (.iload 4, 2) := by decide +kernel
theorem dX7_find_33 : decode cX7_find 33 = .ok (.iconst 3, 1) := by decide +kernel
theorem dX7_find_34 : decode cX7_find 34 = .ok (.if_icmp .lt 18, 3) := by decide +kernel
theorem dX7_find_37 : decode cX7_find 37 = .ok (.iload 5, 2) := by decide +kernel
theorem dX7_find_39 : decode cX7_find 39 = .ok (.ifCond .lt 13, 3) := by decide +kernel
theorem dX7_find_42 : decode cX7_find 42 = .ok (.iload 5, 2) := by decide +kernel
theorem dX7_find_44 : decode cX7_find 44 = .ok (.aload_n 0, 1) := by decide +kernel
theorem dX7_find_45 : decode cX7_find 45 = .ok (.getfield 12, 3) := by decide +kernel
theorem dX7_find_48 : decode cX7_find 48 = .ok (.arraylength, 1) := by decide +kernel
theorem dX7_find_49 : decode cX7_find 49 = .ok (.if_icmp .lt 5, 3) := by decide +kernel
theorem dX7_find_52 : decode cX7_find 52 = .ok (.iconst 0, 1) := by decide +kernel
theorem dX7_find_53 : decode cX7_find 53 = .ok (.ireturn, 1) := by decide +kernel
theorem dX7_find_54 : decode cX7_find 54 = .ok (.iload_n 2, 1) := by decide +kernel
theorem dX7_find_55 : decode cX7_find 55 = .ok (.aload_n 0, 1) := by decide +kernel
theorem dX7_find_56 : decode cX7_find 56 = .ok (.getfield 27, 3) := by decide +kernel
theorem dX7_find_59 : decode cX7_find 59 = .ok (.isub, 1) := by decide +kernel
theorem dX7_find_60 : decode cX7_find 60 = .ok (.istore 6, 2) := by decide +kernel
theorem dX7_find_62 : decode cX7_find 62 = .ok (.aload_n 0, 1) := by decide +kernel
theorem dX7_find_63 : decode cX7_find 63 = .ok (.getfield 12, 3) := by decide +kernel
theorem dX7_find_66 : decode cX7_find 66 = .ok (.iload 5, 2) := by decide +kernel
theorem dX7_find_68 : decode cX7_find 68 = .ok (.iaload, 1) := by decide +kernel
theorem dX7_find_69 : decode cX7_find 69 = .ok (.aload_n 0, 1) := by decide +kernel
theorem dX7_find_70 : decode cX7_find 70 = .ok (.getfield 20, 3) := by decide +kernel
theorem dX7_find_73 : decode cX7_find 73 = .ok (.isub, 1) := by decide +kernel
theorem dX7_find_74 : decode cX7_find 74 = .ok (.istore 7, 2) := by decide +kernel
theorem dX7_find_76 : decode cX7_find 76 = .ok (.iconst 0, 1) := by decide +kernel
theorem dX7_find_77 : decode cX7_find 77 = .ok (.istore 8, 2) := by decide +kernel
theorem dX7_find_79 : decode cX7_find 79 = .ok (.iconst 0, 1) := by decide +kernel
theorem dX7_find_80 : decode cX7_find 80 = .ok (.istore 9, 2) := by decide +kernel
theorem dX7_find_82 : decode cX7_find 82 = .ok (.iload 9, 2) := by decide +kernel
theorem dX7_find_84 : decode cX7_find 84 = .ok (.ldc 16, 2) := by decide +kernel
theorem dX7_find_86 : decode cX7_find 86 = .ok (.if_icmp .ge 131, 3) := by decide +kernel
theorem dX7_find_89 : decode cX7_find 89 = .ok (.iload 8, 2) := by decide +kernel
theorem dX7_find_91 : decode cX7_find 91 = .ok (.bipush 16, 2) := by decide +kernel
theorem dX7_find_93 : decode cX7_find 93 = .ok (.if_icmp .ge 124, 3) := by decide +kernel
theorem dX7_find_96 : decode cX7_find 96 = .ok (.aload_n 0, 1) := by decide +kernel
theorem dX7_find_97 : decode cX7_find 97 = .ok (.getfield 40, 3) := by decide +kernel
theorem dX7_find_100 : decode cX7_find 100 = .ok (.iload 4, 2) := by decide +kernel
theorem dX7_find_102 : decode cX7_find 102 = .ok (.if_icmp .ge 115, 3) := by decide +kernel
theorem dX7_find_105 : decode cX7_find 105 = .ok (.iload 7, 2) := by decide +kernel
theorem dX7_find_107 : decode cX7_find 107 = .ok (.ifCond .lt 110, 3) := by decide +kernel
theorem dX7_find_110 : decode cX7_find 110 = .ok (.iload 7, 2) := by decide +kernel
theorem dX7_find_112 : decode cX7_find 112 = .ok (.iload 6, 2) := by decide +kernel
theorem dX7_find_114 : decode cX7_find 114 = .ok (.if_icmp .ge 103, 3) := by decide +kernel
theorem dX7_find_117 : decode cX7_find 117 = .ok (.iload 7, 2) := by decide +kernel
theorem dX7_find_119 : decode cX7_find 119 = .ok (.aload_n 0, 1) := by decide +kernel
theorem dX7_find_120 : decode cX7_find 120 = .ok (.getfield 17, 3) := by decide +kernel
theorem dX7_find_123 : decode cX7_find 123 = .ok (.arraylength, 1) := by decide +kernel
theorem dX7_find_124 : decode cX7_find 124 = .ok (.if_icmp .ge 93, 3) := by decide +kernel
theorem dX7_find_127 : decode cX7_find 127 = .ok (.iload 6, 2) := by decide +kernel
theorem dX7_find_129 : decode cX7_find 129 = .ok (.iload 7, 2) := by decide +kernel
theorem dX7_find_131 : decode cX7_find 131 = .ok (.isub, 1) := by decide +kernel
theorem dX7_find_132 : decode cX7_find 132 = .ok (.ldc 11, 2) := by decide +kernel
theorem dX7_find_134 : decode cX7_find 134 = .ok (.if_icmp .le 6, 3) := by decide +kernel
theorem dX7_find_137 : decode cX7_find 137 = .ok (.goto 80, 3) := by decide +kernel
theorem dX7_find_140 : decode cX7_find 140 = .ok (.aload_n 1, 1) := by decide +kernel
theorem dX7_find_141 : decode cX7_find 141 = .ok (.aload_n 0, 1) := by decide +kernel
theorem dX7_find_142 : decode cX7_find 142 = .ok (.getfield 27, 3) := by decide +kernel
theorem dX7_find_145 : decode cX7_find 145 = .ok (.iload 7, 2) := by decide +kernel
theorem dX7_find_147 : decode cX7_find 147 = .ok (.iadd, 1) := by decide +kernel
theorem dX7_find_148 : decode cX7_find 148 = .ok (.iload_n 2, 1) := by decide +kernel
theorem dX7_find_149 : decode cX7_find 149 = .ok (.iload 4, 2) := by decide +kernel
theorem dX7_find_151 : decode cX7_find 151 = .ok (.invokevirtual 52, 3) := by decide +kernel
theorem dX7_find_154 : decode cX7_find 154 = .ok (.istore 10, 2) := by decide +kernel
theorem dX7_find_156 : decode cX7_find 156 = .ok (.iload 8, 2) := by decide +kernel
theorem dX7_find_158 : decode cX7_find 158 = .ok (.iload 10, 2) := by decide +kernel
theorem dX7_find_160 : decode cX7_find 160 = .ok (.iconst 3, 1) := by decide +kernel
theorem dX7_find_161 : decode cX7_find 161 = .ok (.if_icmp .lt 7, 3) := by decide +kernel
theorem dX7_find_164 : decode cX7_find 164 = .ok (.iconst 1, 1) := by decide +kernel
theorem dX7_find_165 : decode cX7_find 165 = .ok (.goto 4, 3) := by decide +kernel
theorem dX7_find_168 : decode cX7_find 168 = .ok (.iconst 0, 1) := by decide +kernel
theorem dX7_find_169 : decode cX7_find 169 = .ok (.iadd, 1) := by decide +kernel
theorem dX7_find_170 : decode cX7_find 170 = .ok (.istore 8, 2) := by decide +kernel
theorem dX7_find_172 : decode cX7_find 172 = .ok (.iload 10, 2) := by decide +kernel
theorem dX7_find_174 : decode cX7_find 174 = .ok (.iconst 3, 1) := by decide +kernel
theorem dX7_find_175 : decode cX7_find 175 = .ok (.if_icmp .lt 27, 3) := by decide +kernel
theorem dX7_find_178 : decode cX7_find 178 = .ok (.iload 10, 2) := by decide +kernel
theorem dX7_find_180 : decode cX7_find 180 = .ok (.aload_n 0, 1) := by decide +kernel
theorem dX7_find_181 : decode cX7_find 181 = .ok (.getfield 40, 3) := by decide +kernel
theorem dX7_find_184 : decode cX7_find 184 = .ok (.if_icmp .le 18, 3) := by decide +kernel
theorem dX7_find_187 : decode cX7_find 187 = .ok (.aload_n 0, 1) := by decide +kernel
theorem dX7_find_188 : decode cX7_find 188 = .ok (.iload 10, 2) := by decide +kernel
theorem dX7_find_190 : decode cX7_find 190 = .ok (.putfield 40, 3) := by decide +kernel
theorem dX7_find_193 : decode cX7_find 193 = .ok (.aload_n 0, 1) := by decide +kernel
theorem dX7_find_194 : decode cX7_find 194 = .ok (.iload 6, 2) := by decide +kernel
theorem dX7_find_196 : decode cX7_find 196 = .ok (.iload 7, 2) := by decide +kernel
theorem dX7_find_198 : decode cX7_find 198 = .ok (.isub, 1) := by decide +kernel
theorem dX7_find_199 : decode cX7_find 199 = .ok (.putfield 43, 3) := by decide +kernel
theorem dX7_find_202 : decode cX7_find 202 = .ok (.aload_n 0, 1) := by decide +kernel
theorem dX7_find_203 : decode cX7_find 203 = .ok (.getfield 17, 3) := by decide +kernel
theorem dX7_find_206 : decode cX7_find 206 = .ok (.iload 7, 2) := by decide +kernel
theorem dX7_find_208 : decode cX7_find 208 = .ok (.iaload, 1) := by decide +kernel
theorem dX7_find_209 : decode cX7_find 209 = .ok (.istore 7, 2) := by decide +kernel
theorem dX7_find_211 : decode cX7_find 211 = .ok (.iinc 9 1, 3) := by decide +kernel
theorem dX7_find_214 : decode cX7_find 214 = .ok (.goto (-132), 3) := by decide +kernel
theorem dX7_find_217 : decode cX7_find 217 = .ok (.aload_n 0, 1) := by decide +kernel
theorem dX7_find_218 : decode cX7_find 218 = .ok (.getfield 40, 3) := by decide +kernel
theorem dX7_find_221 : decode cX7_find 221 = .ok (.ifCond .le 7, 3) := by decide +kernel
theorem dX7_find_224 : decode cX7_find 224 = .ok (.iconst 1, 1) := by decide +kernel
theorem dX7_find_225 : decode cX7_find 225 = .ok (.goto 4, 3) := by decide +kernel
theorem dX7_find_228 : decode cX7_find 228 = .ok (.iconst 0, 1) := by decide +kernel
theorem dX7_find_229 : decode cX7_find 229 = .ok (.ireturn, 1) := by decide +kernel
theorem dX7_length_0 : decode cX7_length 0 = .ok (.aload_n 0, 1) := by decide +kernel
theorem dX7_length_1 : decode cX7_length 1 = .ok (.getfield 40, 3) := by decide +kernel
theorem dX7_length_4 : decode cX7_length 4 = .ok (.ireturn, 1) := by decide +kernel
theorem dX7_distance_0 : decode cX7_distance 0 = .ok (.aload_n 0, 1) := by decide +kernel
theorem dX7_distance_1 : decode cX7_distance 1 = .ok (.getfield 43, 3) := by decide +kernel
theorem dX7_distance_4 : decode cX7_distance 4 = .ok (.ireturn, 1) := by decide +kernel
