theorem dAb_0 : fdq cX0_init 0 (.aload_n 0) 1 = true ∧ fdq cX0_init 1 (.invokespecial 3) 3 = true ∧ fdq cX0_init 4 (.aload_n 0) 1 = true ∧ fdq cX0_init 5 (.iload_n 1) 1 = true ∧ fdq cX0_init 6 (.putfield 9) 3 = true ∧ fdq cX0_init 9 (.aload_n 0) 1 = true ∧ fdq cX0_init 10 (.aload_n 2) 1 = true ∧ fdq cX0_init 11 (.putfield 15) 3 = true ∧ fdq cX0_init 14 (.aload_n 0) 1 = true ∧ fdq cX0_init 15 (.iload_n 3) 1 = true ∧ fdq cX0_init 16 (.putfield 19) 3 = true ∧ fdq cX0_init 19 (.aload_n 0) 1 = true ∧ fdq cX0_init 20 (.iload 4) 2 = true ∧ fdq cX0_init 22 (.putfield 22) 3 = true ∧ fdq cX0_init 25 (.return_) 1 = true ∧ fdq cX0_isPlace 0 (.iload_n 1) 1 = true := by decide +kernel
theorem dX0_init_0 : decode cX0_init 0 = .ok (.aload_n 0, 1) := fdf dAb_0.1
theorem dX0_init_1 : decode cX0_init 1 = .ok (.invokespecial 3, 3) := fdf dAb_0.2.1
theorem dX0_init_4 : decode cX0_init 4 = .ok (.aload_n 0, 1) := fdf dAb_0.2.2.1
theorem dX0_init_5 : decode cX0_init 5 = .ok (.iload_n 1, 1) := fdf dAb_0.2.2.2.1
theorem dX0_init_6 : decode cX0_init 6 = .ok (.putfield 9, 3) := fdf dAb_0.2.2.2.2.1
theorem dX0_init_9 : decode cX0_init 9 = .ok (.aload_n 0, 1) := fdf dAb_0.2.2.2.2.2.1
theorem dX0_init_10 : decode cX0_init 10 = .ok (.aload_n 2, 1) := fdf dAb_0.2.2.2.2.2.2.1
theorem dX0_init_11 : decode cX0_init 11 = .ok (.putfield 15, 3) := fdf dAb_0.2.2.2.2.2.2.2.1
theorem dX0_init_14 : decode cX0_init 14 = .ok (.aload_n 0, 1) := fdf dAb_0.2.2.2.2.2.2.2.2.1
theorem dX0_init_15 : decode cX0_init 15 = .ok (.iload_n 3, 1) := fdf dAb_0.2.2.2.2.2.2.2.2.2.1
theorem dX0_init_16 : decode cX0_init 16 = .ok (.putfield 19, 3) := fdf dAb_0.2.2.2.2.2.2.2.2.2.2.1
theorem dX0_init_19 : decode cX0_init 19 = .ok (.aload_n 0, 1) := fdf dAb_0.2.2.2.2.2.2.2.2.2.2.2.1
theorem dX0_init_20 : decode cX0_init 20 = .ok (.iload 4, 2) := fdf dAb_0.2.2.2.2.2.2.2.2.2.2.2.2.1
theorem dX0_init_22 : decode cX0_init 22 = .ok (.putfield 22, 3) := fdf dAb_0.2.2.2.2.2.2.2.2.2.2.2.2.2.1
theorem dX0_init_25 : decode cX0_init 25 = .ok (.return_, 1) := fdf dAb_0.2.2.2.2.2.2.2.2.2.2.2.2.2.2.1
theorem dX0_isPlace_0 : decode cX0_isPlace 0 = .ok (.iload_n 1, 1) := fdf dAb_0.2.2.2.2.2.2.2.2.2.2.2.2.2.2.2
theorem dAb_1 : fdq cX0_isPlace 1 (.ifCond .lt 15) 3 = true ∧ fdq cX0_isPlace 4 (.iload_n 1) 1 = true ∧ fdq cX0_isPlace 5 (.aload_n 0) 1 = true ∧ fdq cX0_isPlace 6 (.getfield 22) 3 = true ∧ fdq cX0_isPlace 9 (.if_icmp .ge 7) 3 = true ∧ fdq cX0_isPlace 12 (.iconst 1) 1 = true ∧ fdq cX0_isPlace 13 (.goto 4) 3 = true ∧ fdq cX0_isPlace 16 (.iconst 0) 1 = true ∧ fdq cX0_isPlace 17 (.ireturn) 1 = true ∧ fdq cX0_read 0 (.aload_n 0) 1 = true ∧ fdq cX0_read 1 (.getfield 19) 3 = true ∧ fdq cX0_read 4 (.iload_n 1) 1 = true ∧ fdq cX0_read 5 (.iadd) 1 = true ∧ fdq cX0_read 6 (.istore_n 2) 1 = true ∧ fdq cX0_read 7 (.iload_n 2) 1 = true ∧ fdq cX0_read 8 (.ifCond .lt 21) 3 = true := by decide +kernel
theorem dX0_isPlace_1 : decode cX0_isPlace 1 = .ok (.ifCond .lt 15, 3) := fdf dAb_1.1
theorem dX0_isPlace_4 : decode cX0_isPlace 4 = .ok (.iload_n 1, 1) := fdf dAb_1.2.1
theorem dX0_isPlace_5 : decode cX0_isPlace 5 = .ok (.aload_n 0, 1) := fdf dAb_1.2.2.1
theorem dX0_isPlace_6 : decode cX0_isPlace 6 = .ok (.getfield 22, 3) := fdf dAb_1.2.2.2.1
theorem dX0_isPlace_9 : decode cX0_isPlace 9 = .ok (.if_icmp .ge 7, 3) := fdf dAb_1.2.2.2.2.1
theorem dX0_isPlace_12 : decode cX0_isPlace 12 = .ok (.iconst 1, 1) := fdf dAb_1.2.2.2.2.2.1
theorem dX0_isPlace_13 : decode cX0_isPlace 13 = .ok (.goto 4, 3) := fdf dAb_1.2.2.2.2.2.2.1
theorem dX0_isPlace_16 : decode cX0_isPlace 16 = .ok (.iconst 0, 1) := fdf dAb_1.2.2.2.2.2.2.2.1
theorem dX0_isPlace_17 : decode cX0_isPlace 17 = .ok (.ireturn, 1) := fdf dAb_1.2.2.2.2.2.2.2.2.1
theorem dX0_read_0 : decode cX0_read 0 = .ok (.aload_n 0, 1) := fdf dAb_1.2.2.2.2.2.2.2.2.2.1
theorem dX0_read_1 : decode cX0_read 1 = .ok (.getfield 19, 3) := fdf dAb_1.2.2.2.2.2.2.2.2.2.2.1
theorem dX0_read_4 : decode cX0_read 4 = .ok (.iload_n 1, 1) := fdf dAb_1.2.2.2.2.2.2.2.2.2.2.2.1
theorem dX0_read_5 : decode cX0_read 5 = .ok (.iadd, 1) := fdf dAb_1.2.2.2.2.2.2.2.2.2.2.2.2.1
theorem dX0_read_6 : decode cX0_read 6 = .ok (.istore_n 2, 1) := fdf dAb_1.2.2.2.2.2.2.2.2.2.2.2.2.2.1
theorem dX0_read_7 : decode cX0_read 7 = .ok (.iload_n 2, 1) := fdf dAb_1.2.2.2.2.2.2.2.2.2.2.2.2.2.2.1
theorem dX0_read_8 : decode cX0_read 8 = .ok (.ifCond .lt 21, 3) := fdf dAb_1.2.2.2.2.2.2.2.2.2.2.2.2.2.2.2
theorem dAb_2 : fdq cX0_read 11 (.iload_n 2) 1 = true ∧ fdq cX0_read 12 (.aload_n 0) 1 = true ∧ fdq cX0_read 13 (.getfield 15) 3 = true ∧ fdq cX0_read 16 (.arraylength) 1 = true ∧ fdq cX0_read 17 (.if_icmp .ge 12) 3 = true ∧ fdq cX0_read 20 (.aload_n 0) 1 = true ∧ fdq cX0_read 21 (.getfield 15) 3 = true ∧ fdq cX0_read 24 (.iload_n 2) 1 = true ∧ fdq cX0_read 25 (.iaload) 1 = true ∧ fdq cX0_read 26 (.goto 6) 3 = true ∧ fdq cX0_read 29 (.sipush (-1000)) 3 = true ∧ fdq cX0_read 32 (.ireturn) 1 = true ∧ fdq cX0_write 0 (.aload_n 0) 1 = true ∧ fdq cX0_write 1 (.iload_n 1) 1 = true ∧ fdq cX0_write 2 (.invokevirtual 25) 3 = true ∧ fdq cX0_write 5 (.istore_n 3) 1 = true := by decide +kernel
theorem dX0_read_11 : decode cX0_read 11 = .ok (.iload_n 2, 1) := fdf dAb_2.1
theorem dX0_read_12 : decode cX0_read 12 = .ok (.aload_n 0, 1) := fdf dAb_2.2.1
theorem dX0_read_13 : decode cX0_read 13 = .ok (.getfield 15, 3) := fdf dAb_2.2.2.1
theorem dX0_read_16 : decode cX0_read 16 = .ok (.arraylength, 1) := fdf dAb_2.2.2.2.1
theorem dX0_read_17 : decode cX0_read 17 = .ok (.if_icmp .ge 12, 3) := fdf dAb_2.2.2.2.2.1
theorem dX0_read_20 : decode cX0_read 20 = .ok (.aload_n 0, 1) := fdf dAb_2.2.2.2.2.2.1
theorem dX0_read_21 : decode cX0_read 21 = .ok (.getfield 15, 3) := fdf dAb_2.2.2.2.2.2.2.1
theorem dX0_read_24 : decode cX0_read 24 = .ok (.iload_n 2, 1) := fdf dAb_2.2.2.2.2.2.2.2.1
theorem dX0_read_25 : decode cX0_read 25 = .ok (.iaload, 1) := fdf dAb_2.2.2.2.2.2.2.2.2.1
theorem dX0_read_26 : decode cX0_read 26 = .ok (.goto 6, 3) := fdf dAb_2.2.2.2.2.2.2.2.2.2.1
theorem dX0_read_29 : decode cX0_read 29 = .ok (.sipush (-1000), 3) := fdf dAb_2.2.2.2.2.2.2.2.2.2.2.1
theorem dX0_read_32 : decode cX0_read 32 = .ok (.ireturn, 1) := fdf dAb_2.2.2.2.2.2.2.2.2.2.2.2.1
theorem dX0_write_0 : decode cX0_write 0 = .ok (.aload_n 0, 1) := fdf dAb_2.2.2.2.2.2.2.2.2.2.2.2.2.1
theorem dX0_write_1 : decode cX0_write 1 = .ok (.iload_n 1, 1) := fdf dAb_2.2.2.2.2.2.2.2.2.2.2.2.2.2.1
theorem dX0_write_2 : decode cX0_write 2 = .ok (.invokevirtual 25, 3) := fdf dAb_2.2.2.2.2.2.2.2.2.2.2.2.2.2.2.1
theorem dX0_write_5 : decode cX0_write 5 = .ok (.istore_n 3, 1) := fdf dAb_2.2.2.2.2.2.2.2.2.2.2.2.2.2.2.2
theorem dAb_3 : fdq cX0_write 6 (.aload_n 0) 1 = true ∧ fdq cX0_write 7 (.getfield 19) 3 = true ∧ fdq cX0_write 10 (.iload_n 1) 1 = true ∧ fdq cX0_write 11 (.iadd) 1 = true ∧ fdq cX0_write 12 (.istore 4) 2 = true ∧ fdq cX0_write 14 (.iload 4) 2 = true ∧ fdq cX0_write 16 (.ifCond .lt 21) 3 = true ∧ fdq cX0_write 19 (.iload 4) 2 = true ∧ fdq cX0_write 21 (.aload_n 0) 1 = true ∧ fdq cX0_write 22 (.getfield 15) 3 = true ∧ fdq cX0_write 25 (.arraylength) 1 = true ∧ fdq cX0_write 26 (.if_icmp .ge 11) 3 = true ∧ fdq cX0_write 29 (.aload_n 0) 1 = true ∧ fdq cX0_write 30 (.getfield 15) 3 = true ∧ fdq cX0_write 33 (.iload 4) 2 = true ∧ fdq cX0_write 35 (.iload_n 2) 1 = true := by decide +kernel
theorem dX0_write_6 : decode cX0_write 6 = .ok (.aload_n 0, 1) := fdf dAb_3.1
theorem dX0_write_7 : decode cX0_write 7 = .ok (.getfield 19, 3) := fdf dAb_3.2.1
theorem dX0_write_10 : decode cX0_write 10 = .ok (.iload_n 1, 1) := fdf dAb_3.2.2.1
theorem dX0_write_11 : decode cX0_write 11 = .ok (.iadd, 1) := fdf dAb_3.2.2.2.1
theorem dX0_write_12 : decode cX0_write 12 = .ok (.istore 4, 2) := fdf dAb_3.2.2.2.2.1
theorem dX0_write_14 : decode cX0_write 14 = .ok (.iload 4, 2) := fdf dAb_3.2.2.2.2.2.1
theorem dX0_write_16 : decode cX0_write 16 = .ok (.ifCond .lt 21, 3) := fdf dAb_3.2.2.2.2.2.2.1
theorem dX0_write_19 : decode cX0_write 19 = .ok (.iload 4, 2) := fdf dAb_3.2.2.2.2.2.2.2.1
theorem dX0_write_21 : decode cX0_write 21 = .ok (.aload_n 0, 1) := fdf dAb_3.2.2.2.2.2.2.2.2.1
theorem dX0_write_22 : decode cX0_write 22 = .ok (.getfield 15, 3) := fdf dAb_3.2.2.2.2.2.2.2.2.2.1
theorem dX0_write_25 : decode cX0_write 25 = .ok (.arraylength, 1) := fdf dAb_3.2.2.2.2.2.2.2.2.2.2.1
theorem dX0_write_26 : decode cX0_write 26 = .ok (.if_icmp .ge 11, 3) := fdf dAb_3.2.2.2.2.2.2.2.2.2.2.2.1
theorem dX0_write_29 : decode cX0_write 29 = .ok (.aload_n 0, 1) := fdf dAb_3.2.2.2.2.2.2.2.2.2.2.2.2.1
theorem dX0_write_30 : decode cX0_write 30 = .ok (.getfield 15, 3) := fdf dAb_3.2.2.2.2.2.2.2.2.2.2.2.2.2.1
theorem dX0_write_33 : decode cX0_write 33 = .ok (.iload 4, 2) := fdf dAb_3.2.2.2.2.2.2.2.2.2.2.2.2.2.2.1
theorem dX0_write_35 : decode cX0_write 35 = .ok (.iload_n 2, 1) := fdf dAb_3.2.2.2.2.2.2.2.2.2.2.2.2.2.2.2
theorem dAb_4 : fdq cX0_write 36 (.iastore) 1 = true ∧ fdq cX0_write 37 (.iload_n 3) 1 = true ∧ fdq cX0_write 38 (.ireturn) 1 = true ∧ fdq cX0_exchange 0 (.aload_n 0) 1 = true ∧ fdq cX0_exchange 1 (.iload_n 2) 1 = true ∧ fdq cX0_exchange 2 (.aload_n 0) 1 = true ∧ fdq cX0_exchange 3 (.iload_n 1) 1 = true ∧ fdq cX0_exchange 4 (.aload_n 0) 1 = true ∧ fdq cX0_exchange 5 (.iload_n 2) 1 = true ∧ fdq cX0_exchange 6 (.invokevirtual 25) 3 = true ∧ fdq cX0_exchange 9 (.invokevirtual 29) 3 = true ∧ fdq cX0_exchange 12 (.invokevirtual 29) 3 = true ∧ fdq cX0_exchange 15 (.pop) 1 = true ∧ fdq cX0_exchange 16 (.return_) 1 = true ∧ fdq cX0_pieceOf 0 (.new 10) 3 = true ∧ fdq cX0_pieceOf 3 (.dup) 1 = true := by decide +kernel
theorem dX0_write_36 : decode cX0_write 36 = .ok (.iastore, 1) := fdf dAb_4.1
theorem dX0_write_37 : decode cX0_write 37 = .ok (.iload_n 3, 1) := fdf dAb_4.2.1
theorem dX0_write_38 : decode cX0_write 38 = .ok (.ireturn, 1) := fdf dAb_4.2.2.1
theorem dX0_exchange_0 : decode cX0_exchange 0 = .ok (.aload_n 0, 1) := fdf dAb_4.2.2.2.1
theorem dX0_exchange_1 : decode cX0_exchange 1 = .ok (.iload_n 2, 1) := fdf dAb_4.2.2.2.2.1
theorem dX0_exchange_2 : decode cX0_exchange 2 = .ok (.aload_n 0, 1) := fdf dAb_4.2.2.2.2.2.1
theorem dX0_exchange_3 : decode cX0_exchange 3 = .ok (.iload_n 1, 1) := fdf dAb_4.2.2.2.2.2.2.1
theorem dX0_exchange_4 : decode cX0_exchange 4 = .ok (.aload_n 0, 1) := fdf dAb_4.2.2.2.2.2.2.2.1
theorem dX0_exchange_5 : decode cX0_exchange 5 = .ok (.iload_n 2, 1) := fdf dAb_4.2.2.2.2.2.2.2.2.1
theorem dX0_exchange_6 : decode cX0_exchange 6 = .ok (.invokevirtual 25, 3) := fdf dAb_4.2.2.2.2.2.2.2.2.2.1
theorem dX0_exchange_9 : decode cX0_exchange 9 = .ok (.invokevirtual 29, 3) := fdf dAb_4.2.2.2.2.2.2.2.2.2.2.1
theorem dX0_exchange_12 : decode cX0_exchange 12 = .ok (.invokevirtual 29, 3) := fdf dAb_4.2.2.2.2.2.2.2.2.2.2.2.1
theorem dX0_exchange_15 : decode cX0_exchange 15 = .ok (.pop, 1) := fdf dAb_4.2.2.2.2.2.2.2.2.2.2.2.2.1
theorem dX0_exchange_16 : decode cX0_exchange 16 = .ok (.return_, 1) := fdf dAb_4.2.2.2.2.2.2.2.2.2.2.2.2.2.1
theorem dX0_pieceOf_0 : decode cX0_pieceOf 0 = .ok (.new 10, 3) := fdf dAb_4.2.2.2.2.2.2.2.2.2.2.2.2.2.2.1
theorem dX0_pieceOf_3 : decode cX0_pieceOf 3 = .ok (.dup, 1) := fdf dAb_4.2.2.2.2.2.2.2.2.2.2.2.2.2.2.2
theorem dAb_5 : fdq cX0_pieceOf 4 (.aload_n 0) 1 = true ∧ fdq cX0_pieceOf 5 (.getfield 9) 3 = true ∧ fdq cX0_pieceOf 8 (.aload_n 0) 1 = true ∧ fdq cX0_pieceOf 9 (.getfield 15) 3 = true ∧ fdq cX0_pieceOf 12 (.aload_n 0) 1 = true ∧ fdq cX0_pieceOf 13 (.getfield 19) 3 = true ∧ fdq cX0_pieceOf 16 (.iload_n 1) 1 = true ∧ fdq cX0_pieceOf 17 (.iadd) 1 = true ∧ fdq cX0_pieceOf 18 (.iload_n 2) 1 = true ∧ fdq cX0_pieceOf 19 (.iload_n 1) 1 = true ∧ fdq cX0_pieceOf 20 (.isub) 1 = true ∧ fdq cX0_pieceOf 21 (.invokespecial 33) 3 = true ∧ fdq cX0_pieceOf 24 (.areturn) 1 = true ∧ fdq cX1_init 0 (.aload_n 0) 1 = true ∧ fdq cX1_init 1 (.invokespecial 1) 3 = true ∧ fdq cX1_init 4 (.aload_n 0) 1 = true := by decide +kernel
theorem dX0_pieceOf_4 : decode cX0_pieceOf 4 = .ok (.aload_n 0, 1) := fdf dAb_5.1
theorem dX0_pieceOf_5 : decode cX0_pieceOf 5 = .ok (.getfield 9, 3) := fdf dAb_5.2.1
theorem dX0_pieceOf_8 : decode cX0_pieceOf 8 = .ok (.aload_n 0, 1) := fdf dAb_5.2.2.1
theorem dX0_pieceOf_9 : decode cX0_pieceOf 9 = .ok (.getfield 15, 3) := fdf dAb_5.2.2.2.1
theorem dX0_pieceOf_12 : decode cX0_pieceOf 12 = .ok (.aload_n 0, 1) := fdf dAb_5.2.2.2.2.1
theorem dX0_pieceOf_13 : decode cX0_pieceOf 13 = .ok (.getfield 19, 3) := fdf dAb_5.2.2.2.2.2.1
theorem dX0_pieceOf_16 : decode cX0_pieceOf 16 = .ok (.iload_n 1, 1) := fdf dAb_5.2.2.2.2.2.2.1
theorem dX0_pieceOf_17 : decode cX0_pieceOf 17 = .ok (.iadd, 1) := fdf dAb_5.2.2.2.2.2.2.2.1
theorem dX0_pieceOf_18 : decode cX0_pieceOf 18 = .ok (.iload_n 2, 1) := fdf dAb_5.2.2.2.2.2.2.2.2.1
theorem dX0_pieceOf_19 : decode cX0_pieceOf 19 = .ok (.iload_n 1, 1) := fdf dAb_5.2.2.2.2.2.2.2.2.2.1
theorem dX0_pieceOf_20 : decode cX0_pieceOf 20 = .ok (.isub, 1) := fdf dAb_5.2.2.2.2.2.2.2.2.2.2.1
theorem dX0_pieceOf_21 : decode cX0_pieceOf 21 = .ok (.invokespecial 33, 3) := fdf dAb_5.2.2.2.2.2.2.2.2.2.2.2.1
theorem dX0_pieceOf_24 : decode cX0_pieceOf 24 = .ok (.areturn, 1) := fdf dAb_5.2.2.2.2.2.2.2.2.2.2.2.2.1
theorem dX1_init_0 : decode cX1_init 0 = .ok (.aload_n 0, 1) := fdf dAb_5.2.2.2.2.2.2.2.2.2.2.2.2.2.1
theorem dX1_init_1 : decode cX1_init 1 = .ok (.invokespecial 1, 3) := fdf dAb_5.2.2.2.2.2.2.2.2.2.2.2.2.2.2.1
theorem dX1_init_4 : decode cX1_init 4 = .ok (.aload_n 0, 1) := fdf dAb_5.2.2.2.2.2.2.2.2.2.2.2.2.2.2.2
theorem dAb_6 : fdq cX1_init 5 (.bipush 7) 2 = true ∧ fdq cX1_init 7 (.anewarray 9) 3 = true ∧ fdq cX1_init 10 (.putfield 11) 3 = true ∧ fdq cX1_init 13 (.aload_n 0) 1 = true ∧ fdq cX1_init 14 (.bipush 12) 2 = true ∧ fdq cX1_init 18 (.putfield 15) 3 = true ∧ fdq cX1_init 21 (.aload_n 0) 1 = true ∧ fdq cX1_init 22 (.iconst 0) 1 = true ∧ fdq cX1_init 23 (.putfield 19) 3 = true ∧ fdq cX1_init 26 (.aload_n 0) 1 = true ∧ fdq cX1_init 27 (.iconst 0) 1 = true ∧ fdq cX1_init 28 (.putfield 23) 3 = true ∧ fdq cX1_init 31 (.iconst 0) 1 = true ∧ fdq cX1_init 32 (.istore_n 1) 1 = true ∧ fdq cX1_init 33 (.iload_n 1) 1 = true ∧ fdq cX1_init 34 (.iconst 3) 1 = true := by decide +kernel
theorem dX1_init_5 : decode cX1_init 5 = .ok (.bipush 7, 2) := fdf dAb_6.1
theorem dX1_init_7 : decode cX1_init 7 = .ok (.anewarray 9, 3) := fdf dAb_6.2.1
theorem dX1_init_10 : decode cX1_init 10 = .ok (.putfield 11, 3) := fdf dAb_6.2.2.1
theorem dX1_init_13 : decode cX1_init 13 = .ok (.aload_n 0, 1) := fdf dAb_6.2.2.2.1
theorem dX1_init_14 : decode cX1_init 14 = .ok (.bipush 12, 2) := fdf dAb_6.2.2.2.2.1
theorem dX1_init_18 : decode cX1_init 18 = .ok (.putfield 15, 3) := fdf dAb_6.2.2.2.2.2.1
theorem dX1_init_21 : decode cX1_init 21 = .ok (.aload_n 0, 1) := fdf dAb_6.2.2.2.2.2.2.1
theorem dX1_init_22 : decode cX1_init 22 = .ok (.iconst 0, 1) := fdf dAb_6.2.2.2.2.2.2.2.1
theorem dX1_init_23 : decode cX1_init 23 = .ok (.putfield 19, 3) := fdf dAb_6.2.2.2.2.2.2.2.2.1
theorem dX1_init_26 : decode cX1_init 26 = .ok (.aload_n 0, 1) := fdf dAb_6.2.2.2.2.2.2.2.2.2.1
theorem dX1_init_27 : decode cX1_init 27 = .ok (.iconst 0, 1) := fdf dAb_6.2.2.2.2.2.2.2.2.2.2.1
theorem dX1_init_28 : decode cX1_init 28 = .ok (.putfield 23, 3) := fdf dAb_6.2.2.2.2.2.2.2.2.2.2.2.1
theorem dX1_init_31 : decode cX1_init 31 = .ok (.iconst 0, 1) := fdf dAb_6.2.2.2.2.2.2.2.2.2.2.2.2.1
theorem dX1_init_32 : decode cX1_init 32 = .ok (.istore_n 1, 1) := fdf dAb_6.2.2.2.2.2.2.2.2.2.2.2.2.2.1
theorem dX1_init_33 : decode cX1_init 33 = .ok (.iload_n 1, 1) := fdf dAb_6.2.2.2.2.2.2.2.2.2.2.2.2.2.2.1
theorem dX1_init_34 : decode cX1_init 34 = .ok (.iconst 3, 1) := fdf dAb_6.2.2.2.2.2.2.2.2.2.2.2.2.2.2.2
theorem dAb_7 : fdq cX1_init 35 (.if_icmp .ge 38) 3 = true ∧ fdq cX1_init 38 (.iload_n 1) 1 = true ∧ fdq cX1_init 39 (.aload_n 0) 1 = true ∧ fdq cX1_init 40 (.getfield 11) 3 = true ∧ fdq cX1_init 43 (.arraylength) 1 = true ∧ fdq cX1_init 44 (.if_icmp .ge 29) 3 = true ∧ fdq cX1_init 47 (.aload_n 0) 1 = true ∧ fdq cX1_init 48 (.getfield 11) 3 = true ∧ fdq cX1_init 51 (.iload_n 1) 1 = true ∧ fdq cX1_init 52 (.new 9) 3 = true ∧ fdq cX1_init 55 (.dup) 1 = true ∧ fdq cX1_init 56 (.iload_n 1) 1 = true ∧ fdq cX1_init 57 (.bipush 12) 2 = true ∧ fdq cX1_init 61 (.iconst 0) 1 = true ∧ fdq cX1_init 62 (.iconst 4) 1 = true ∧ fdq cX1_init 63 (.invokespecial 26) 3 = true := by decide +kernel
theorem dX1_init_35 : decode cX1_init 35 = .ok (.if_icmp .ge 38, 3) := fdf dAb_7.1
theorem dX1_init_38 : decode cX1_init 38 = .ok (.iload_n 1, 1) := fdf dAb_7.2.1
theorem dX1_init_39 : decode cX1_init 39 = .ok (.aload_n 0, 1) := fdf dAb_7.2.2.1
theorem dX1_init_40 : decode cX1_init 40 = .ok (.getfield 11, 3) := fdf dAb_7.2.2.2.1
theorem dX1_init_43 : decode cX1_init 43 = .ok (.arraylength, 1) := fdf dAb_7.2.2.2.2.1
theorem dX1_init_44 : decode cX1_init 44 = .ok (.if_icmp .ge 29, 3) := fdf dAb_7.2.2.2.2.2.1
theorem dX1_init_47 : decode cX1_init 47 = .ok (.aload_n 0, 1) := fdf dAb_7.2.2.2.2.2.2.1
theorem dX1_init_48 : decode cX1_init 48 = .ok (.getfield 11, 3) := fdf dAb_7.2.2.2.2.2.2.2.1
theorem dX1_init_51 : decode cX1_init 51 = .ok (.iload_n 1, 1) := fdf dAb_7.2.2.2.2.2.2.2.2.1
theorem dX1_init_52 : decode cX1_init 52 = .ok (.new 9, 3) := fdf dAb_7.2.2.2.2.2.2.2.2.2.1
theorem dX1_init_55 : decode cX1_init 55 = .ok (.dup, 1) := fdf dAb_7.2.2.2.2.2.2.2.2.2.2.1
theorem dX1_init_56 : decode cX1_init 56 = .ok (.iload_n 1, 1) := fdf dAb_7.2.2.2.2.2.2.2.2.2.2.2.1
theorem dX1_init_57 : decode cX1_init 57 = .ok (.bipush 12, 2) := fdf dAb_7.2.2.2.2.2.2.2.2.2.2.2.2.1
theorem dX1_init_61 : decode cX1_init 61 = .ok (.iconst 0, 1) := fdf dAb_7.2.2.2.2.2.2.2.2.2.2.2.2.2.1
theorem dX1_init_62 : decode cX1_init 62 = .ok (.iconst 4, 1) := fdf dAb_7.2.2.2.2.2.2.2.2.2.2.2.2.2.2.1
theorem dX1_init_63 : decode cX1_init 63 = .ok (.invokespecial 26, 3) := fdf dAb_7.2.2.2.2.2.2.2.2.2.2.2.2.2.2.2
theorem dAb_8 : fdq cX1_init 66 (.aastore) 1 = true ∧ fdq cX1_init 67 (.iinc 1 1) 3 = true ∧ fdq cX1_init 70 (.goto (-37)) 3 = true ∧ fdq cX1_init 73 (.return_) 1 = true ∧ fdq cX1_lay 0 (.aload_n 0) 1 = true ∧ fdq cX1_lay 1 (.iload_n 1) 1 = true ∧ fdq cX1_lay 2 (.invokevirtual 29) 3 = true ∧ fdq cX1_lay 5 (.astore_n 3) 1 = true ∧ fdq cX1_lay 6 (.iload_n 2) 1 = true ∧ fdq cX1_lay 7 (.iconst 0) 1 = true ∧ fdq cX1_lay 8 (.bipush 12) 2 = true ∧ fdq cX1_lay 10 (.invokestatic 33) 3 = true ∧ fdq cX1_lay 13 (.new 9) 3 = true ∧ fdq cX1_lay 16 (.dup) 1 = true ∧ fdq cX1_lay 17 (.iload_n 1) 1 = true ∧ fdq cX1_lay 18 (.aload_n 3) 1 = true := by decide +kernel
theorem dX1_init_66 : decode cX1_init 66 = .ok (.aastore, 1) := fdf dAb_8.1
theorem dX1_init_67 : decode cX1_init 67 = .ok (.iinc 1 1, 3) := fdf dAb_8.2.1
theorem dX1_init_70 : decode cX1_init 70 = .ok (.goto (-37), 3) := fdf dAb_8.2.2.1
theorem dX1_init_73 : decode cX1_init 73 = .ok (.return_, 1) := fdf dAb_8.2.2.2.1
theorem dX1_lay_0 : decode cX1_lay 0 = .ok (.aload_n 0, 1) := fdf dAb_8.2.2.2.2.1
theorem dX1_lay_1 : decode cX1_lay 1 = .ok (.iload_n 1, 1) := fdf dAb_8.2.2.2.2.2.1
theorem dX1_lay_2 : decode cX1_lay 2 = .ok (.invokevirtual 29, 3) := fdf dAb_8.2.2.2.2.2.2.1
theorem dX1_lay_5 : decode cX1_lay 5 = .ok (.astore_n 3, 1) := fdf dAb_8.2.2.2.2.2.2.2.1
theorem dX1_lay_6 : decode cX1_lay 6 = .ok (.iload_n 2, 1) := fdf dAb_8.2.2.2.2.2.2.2.2.1
theorem dX1_lay_7 : decode cX1_lay 7 = .ok (.iconst 0, 1) := fdf dAb_8.2.2.2.2.2.2.2.2.2.1
theorem dX1_lay_8 : decode cX1_lay 8 = .ok (.bipush 12, 2) := fdf dAb_8.2.2.2.2.2.2.2.2.2.2.1
theorem dX1_lay_10 : decode cX1_lay 10 = .ok (.invokestatic 33, 3) := fdf dAb_8.2.2.2.2.2.2.2.2.2.2.2.1
theorem dX1_lay_13 : decode cX1_lay 13 = .ok (.new 9, 3) := fdf dAb_8.2.2.2.2.2.2.2.2.2.2.2.2.1
theorem dX1_lay_16 : decode cX1_lay 16 = .ok (.dup, 1) := fdf dAb_8.2.2.2.2.2.2.2.2.2.2.2.2.2.1
theorem dX1_lay_17 : decode cX1_lay 17 = .ok (.iload_n 1, 1) := fdf dAb_8.2.2.2.2.2.2.2.2.2.2.2.2.2.2.1
theorem dX1_lay_18 : decode cX1_lay 18 = .ok (.aload_n 3, 1) := fdf dAb_8.2.2.2.2.2.2.2.2.2.2.2.2.2.2.2
theorem dAb_9 : fdq cX1_lay 19 (.getfield 37) 3 = true ∧ fdq cX1_lay 22 (.iconst 0) 1 = true ∧ fdq cX1_lay 23 (.iload_n 2) 1 = true ∧ fdq cX1_lay 24 (.invokespecial 26) 3 = true ∧ fdq cX1_lay 27 (.astore 4) 2 = true ∧ fdq cX1_lay 29 (.aload 4) 2 = true ∧ fdq cX1_lay 31 (.iconst 0) 1 = true ∧ fdq cX1_lay 32 (.invokestatic 40) 3 = true ∧ fdq cX1_lay 35 (.aload_n 0) 1 = true ∧ fdq cX1_lay 36 (.getfield 11) 3 = true ∧ fdq cX1_lay 39 (.iload_n 1) 1 = true ∧ fdq cX1_lay 40 (.aload 4) 2 = true ∧ fdq cX1_lay 42 (.aastore) 1 = true ∧ fdq cX1_lay 43 (.aload_n 0) 1 = true ∧ fdq cX1_lay 44 (.iload_n 1) 1 = true ∧ fdq cX1_lay 45 (.invokevirtual 44) 3 = true := by decide +kernel
theorem dX1_lay_19 : decode cX1_lay 19 = .ok (.getfield 37, 3) := fdf dAb_9.1
theorem dX1_lay_22 : decode cX1_lay 22 = .ok (.iconst 0, 1) := fdf dAb_9.2.1
theorem dX1_lay_23 : decode cX1_lay 23 = .ok (.iload_n 2, 1) := fdf dAb_9.2.2.1
theorem dX1_lay_24 : decode cX1_lay 24 = .ok (.invokespecial 26, 3) := fdf dAb_9.2.2.2.1
theorem dX1_lay_27 : decode cX1_lay 27 = .ok (.astore 4, 2) := fdf dAb_9.2.2.2.2.1
theorem dX1_lay_29 : decode cX1_lay 29 = .ok (.aload 4, 2) := fdf dAb_9.2.2.2.2.2.1
theorem dX1_lay_31 : decode cX1_lay 31 = .ok (.iconst 0, 1) := fdf dAb_9.2.2.2.2.2.2.1
theorem dX1_lay_32 : decode cX1_lay 32 = .ok (.invokestatic 40, 3) := fdf dAb_9.2.2.2.2.2.2.2.1
theorem dX1_lay_35 : decode cX1_lay 35 = .ok (.aload_n 0, 1) := fdf dAb_9.2.2.2.2.2.2.2.2.1
theorem dX1_lay_36 : decode cX1_lay 36 = .ok (.getfield 11, 3) := fdf dAb_9.2.2.2.2.2.2.2.2.2.1
theorem dX1_lay_39 : decode cX1_lay 39 = .ok (.iload_n 1, 1) := fdf dAb_9.2.2.2.2.2.2.2.2.2.2.1
theorem dX1_lay_40 : decode cX1_lay 40 = .ok (.aload 4, 2) := fdf dAb_9.2.2.2.2.2.2.2.2.2.2.2.1
theorem dX1_lay_42 : decode cX1_lay 42 = .ok (.aastore, 1) := fdf dAb_9.2.2.2.2.2.2.2.2.2.2.2.2.1
theorem dX1_lay_43 : decode cX1_lay 43 = .ok (.aload_n 0, 1) := fdf dAb_9.2.2.2.2.2.2.2.2.2.2.2.2.2.1
theorem dX1_lay_44 : decode cX1_lay 44 = .ok (.iload_n 1, 1) := fdf dAb_9.2.2.2.2.2.2.2.2.2.2.2.2.2.2.1
theorem dX1_lay_45 : decode cX1_lay 45 = .ok (.invokevirtual 44, 3) := fdf dAb_9.2.2.2.2.2.2.2.2.2.2.2.2.2.2.2
theorem dAb_10 : fdq cX1_lay 48 (.ireturn) 1 = true ∧ fdq cX1_put 0 (.aload_n 0) 1 = true ∧ fdq cX1_put 1 (.iload_n 1) 1 = true ∧ fdq cX1_put 2 (.invokevirtual 29) 3 = true ∧ fdq cX1_put 5 (.astore 4) 2 = true ∧ fdq cX1_put 7 (.aload 4) 2 = true ∧ fdq cX1_put 9 (.iload_n 2) 1 = true ∧ fdq cX1_put 10 (.invokestatic 48) 3 = true ∧ fdq cX1_put 13 (.iload_n 3) 1 = true ∧ fdq cX1_put 14 (.invokestatic 51) 3 = true ∧ fdq cX1_put 17 (.aload 4) 2 = true ∧ fdq cX1_put 19 (.iload_n 2) 1 = true ∧ fdq cX1_put 20 (.iload_n 3) 1 = true ∧ fdq cX1_put 21 (.invokevirtual 55) 3 = true ∧ fdq cX1_put 24 (.ireturn) 1 = true ∧ fdq cX1_at 0 (.aload_n 0) 1 = true := by decide +kernel
theorem dX1_lay_48 : decode cX1_lay 48 = .ok (.ireturn, 1) := fdf dAb_10.1
theorem dX1_put_0 : decode cX1_put 0 = .ok (.aload_n 0, 1) := fdf dAb_10.2.1
theorem dX1_put_1 : decode cX1_put 1 = .ok (.iload_n 1, 1) := fdf dAb_10.2.2.1
theorem dX1_put_2 : decode cX1_put 2 = .ok (.invokevirtual 29, 3) := fdf dAb_10.2.2.2.1
theorem dX1_put_5 : decode cX1_put 5 = .ok (.astore 4, 2) := fdf dAb_10.2.2.2.2.1
theorem dX1_put_7 : decode cX1_put 7 = .ok (.aload 4, 2) := fdf dAb_10.2.2.2.2.2.1
theorem dX1_put_9 : decode cX1_put 9 = .ok (.iload_n 2, 1) := fdf dAb_10.2.2.2.2.2.2.1
theorem dX1_put_10 : decode cX1_put 10 = .ok (.invokestatic 48, 3) := fdf dAb_10.2.2.2.2.2.2.2.1
theorem dX1_put_13 : decode cX1_put 13 = .ok (.iload_n 3, 1) := fdf dAb_10.2.2.2.2.2.2.2.2.1
theorem dX1_put_14 : decode cX1_put 14 = .ok (.invokestatic 51, 3) := fdf dAb_10.2.2.2.2.2.2.2.2.2.1
theorem dX1_put_17 : decode cX1_put 17 = .ok (.aload 4, 2) := fdf dAb_10.2.2.2.2.2.2.2.2.2.2.1
theorem dX1_put_19 : decode cX1_put 19 = .ok (.iload_n 2, 1) := fdf dAb_10.2.2.2.2.2.2.2.2.2.2.2.1
theorem dX1_put_20 : decode cX1_put 20 = .ok (.iload_n 3, 1) := fdf dAb_10.2.2.2.2.2.2.2.2.2.2.2.2.1
theorem dX1_put_21 : decode cX1_put 21 = .ok (.invokevirtual 55, 3) := fdf dAb_10.2.2.2.2.2.2.2.2.2.2.2.2.2.1
theorem dX1_put_24 : decode cX1_put 24 = .ok (.ireturn, 1) := fdf dAb_10.2.2.2.2.2.2.2.2.2.2.2.2.2.2.1
theorem dX1_at_0 : decode cX1_at 0 = .ok (.aload_n 0, 1) := fdf dAb_10.2.2.2.2.2.2.2.2.2.2.2.2.2.2.2
theorem dAb_11 : fdq cX1_at 1 (.iload_n 1) 1 = true ∧ fdq cX1_at 2 (.invokevirtual 29) 3 = true ∧ fdq cX1_at 5 (.astore_n 3) 1 = true ∧ fdq cX1_at 6 (.aload_n 3) 1 = true ∧ fdq cX1_at 7 (.iload_n 2) 1 = true ∧ fdq cX1_at 8 (.invokestatic 48) 3 = true ∧ fdq cX1_at 11 (.aload_n 3) 1 = true ∧ fdq cX1_at 12 (.iload_n 2) 1 = true ∧ fdq cX1_at 13 (.invokevirtual 59) 3 = true ∧ fdq cX1_at 16 (.ireturn) 1 = true ∧ fdq cX1_part 0 (.iload_n 1) 1 = true ∧ fdq cX1_part 1 (.invokestatic 62) 3 = true ∧ fdq cX1_part 4 (.aload_n 0) 1 = true ∧ fdq cX1_part 5 (.iload_n 2) 1 = true ∧ fdq cX1_part 6 (.invokevirtual 65) 3 = true ∧ fdq cX1_part 9 (.astore 5) 2 = true := by decide +kernel
theorem dX1_at_1 : decode cX1_at 1 = .ok (.iload_n 1, 1) := fdf dAb_11.1
theorem dX1_at_2 : decode cX1_at 2 = .ok (.invokevirtual 29, 3) := fdf dAb_11.2.1
theorem dX1_at_5 : decode cX1_at 5 = .ok (.astore_n 3, 1) := fdf dAb_11.2.2.1
theorem dX1_at_6 : decode cX1_at 6 = .ok (.aload_n 3, 1) := fdf dAb_11.2.2.2.1
theorem dX1_at_7 : decode cX1_at 7 = .ok (.iload_n 2, 1) := fdf dAb_11.2.2.2.2.1
theorem dX1_at_8 : decode cX1_at 8 = .ok (.invokestatic 48, 3) := fdf dAb_11.2.2.2.2.2.1
theorem dX1_at_11 : decode cX1_at 11 = .ok (.aload_n 3, 1) := fdf dAb_11.2.2.2.2.2.2.1
theorem dX1_at_12 : decode cX1_at 12 = .ok (.iload_n 2, 1) := fdf dAb_11.2.2.2.2.2.2.2.1
theorem dX1_at_13 : decode cX1_at 13 = .ok (.invokevirtual 59, 3) := fdf dAb_11.2.2.2.2.2.2.2.2.1
theorem dX1_at_16 : decode cX1_at 16 = .ok (.ireturn, 1) := fdf dAb_11.2.2.2.2.2.2.2.2.2.1
theorem dX1_part_0 : decode cX1_part 0 = .ok (.iload_n 1, 1) := fdf dAb_11.2.2.2.2.2.2.2.2.2.2.1
theorem dX1_part_1 : decode cX1_part 1 = .ok (.invokestatic 62, 3) := fdf dAb_11.2.2.2.2.2.2.2.2.2.2.2.1
theorem dX1_part_4 : decode cX1_part 4 = .ok (.aload_n 0, 1) := fdf dAb_11.2.2.2.2.2.2.2.2.2.2.2.2.1
theorem dX1_part_5 : decode cX1_part 5 = .ok (.iload_n 2, 1) := fdf dAb_11.2.2.2.2.2.2.2.2.2.2.2.2.2.1
theorem dX1_part_6 : decode cX1_part 6 = .ok (.invokevirtual 65, 3) := fdf dAb_11.2.2.2.2.2.2.2.2.2.2.2.2.2.2.1
theorem dX1_part_9 : decode cX1_part 9 = .ok (.astore 5, 2) := fdf dAb_11.2.2.2.2.2.2.2.2.2.2.2.2.2.2.2
theorem dAb_12 : fdq cX1_part 11 (.iload 4) 2 = true ∧ fdq cX1_part 13 (.iconst 0) 1 = true ∧ fdq cX1_part 14 (.aload 5) 2 = true ∧ fdq cX1_part 16 (.getfield 68) 3 = true ∧ fdq cX1_part 19 (.invokestatic 33) 3 = true ∧ fdq cX1_part 22 (.iload_n 3) 1 = true ∧ fdq cX1_part 23 (.iconst 0) 1 = true ∧ fdq cX1_part 24 (.iload 4) 2 = true ∧ fdq cX1_part 26 (.invokestatic 33) 3 = true ∧ fdq cX1_part 29 (.aload 5) 2 = true ∧ fdq cX1_part 31 (.iload_n 3) 1 = true ∧ fdq cX1_part 32 (.iload 4) 2 = true ∧ fdq cX1_part 34 (.invokevirtual 71) 3 = true ∧ fdq cX1_part 37 (.astore 6) 2 = true ∧ fdq cX1_part 39 (.aload_n 0) 1 = true ∧ fdq cX1_part 40 (.getfield 11) 3 = true := by decide +kernel
theorem dX1_part_11 : decode cX1_part 11 = .ok (.iload 4, 2) := fdf dAb_12.1
theorem dX1_part_13 : decode cX1_part 13 = .ok (.iconst 0, 1) := fdf dAb_12.2.1
theorem dX1_part_14 : decode cX1_part 14 = .ok (.aload 5, 2) := fdf dAb_12.2.2.1
theorem dX1_part_16 : decode cX1_part 16 = .ok (.getfield 68, 3) := fdf dAb_12.2.2.2.1
theorem dX1_part_19 : decode cX1_part 19 = .ok (.invokestatic 33, 3) := fdf dAb_12.2.2.2.2.1
theorem dX1_part_22 : decode cX1_part 22 = .ok (.iload_n 3, 1) := fdf dAb_12.2.2.2.2.2.1
theorem dX1_part_23 : decode cX1_part 23 = .ok (.iconst 0, 1) := fdf dAb_12.2.2.2.2.2.2.1
theorem dX1_part_24 : decode cX1_part 24 = .ok (.iload 4, 2) := fdf dAb_12.2.2.2.2.2.2.2.1
theorem dX1_part_26 : decode cX1_part 26 = .ok (.invokestatic 33, 3) := fdf dAb_12.2.2.2.2.2.2.2.2.1
theorem dX1_part_29 : decode cX1_part 29 = .ok (.aload 5, 2) := fdf dAb_12.2.2.2.2.2.2.2.2.2.1
theorem dX1_part_31 : decode cX1_part 31 = .ok (.iload_n 3, 1) := fdf dAb_12.2.2.2.2.2.2.2.2.2.2.1
theorem dX1_part_32 : decode cX1_part 32 = .ok (.iload 4, 2) := fdf dAb_12.2.2.2.2.2.2.2.2.2.2.2.1
theorem dX1_part_34 : decode cX1_part 34 = .ok (.invokevirtual 71, 3) := fdf dAb_12.2.2.2.2.2.2.2.2.2.2.2.2.1
theorem dX1_part_37 : decode cX1_part 37 = .ok (.astore 6, 2) := fdf dAb_12.2.2.2.2.2.2.2.2.2.2.2.2.2.1
theorem dX1_part_39 : decode cX1_part 39 = .ok (.aload_n 0, 1) := fdf dAb_12.2.2.2.2.2.2.2.2.2.2.2.2.2.2.1
theorem dX1_part_40 : decode cX1_part 40 = .ok (.getfield 11, 3) := fdf dAb_12.2.2.2.2.2.2.2.2.2.2.2.2.2.2.2
theorem dAb_13 : fdq cX1_part 43 (.iload_n 1) 1 = true ∧ fdq cX1_part 44 (.aload 6) 2 = true ∧ fdq cX1_part 46 (.aastore) 1 = true ∧ fdq cX1_part 47 (.aload 6) 2 = true ∧ fdq cX1_part 49 (.getfield 68) 3 = true ∧ fdq cX1_part 52 (.ireturn) 1 = true ∧ fdq cX1_set 0 (.aload_n 0) 1 = true ∧ fdq cX1_set 1 (.iload_n 1) 1 = true ∧ fdq cX1_set 2 (.invokevirtual 65) 3 = true ∧ fdq cX1_set 5 (.astore 4) 2 = true ∧ fdq cX1_set 7 (.aload 4) 2 = true ∧ fdq cX1_set 9 (.iload_n 2) 1 = true ∧ fdq cX1_set 10 (.invokestatic 48) 3 = true ∧ fdq cX1_set 13 (.iload_n 3) 1 = true ∧ fdq cX1_set 14 (.invokestatic 51) 3 = true ∧ fdq cX1_set 17 (.aload 4) 2 = true := by decide +kernel
theorem dX1_part_43 : decode cX1_part 43 = .ok (.iload_n 1, 1) := fdf dAb_13.1
theorem dX1_part_44 : decode cX1_part 44 = .ok (.aload 6, 2) := fdf dAb_13.2.1
theorem dX1_part_46 : decode cX1_part 46 = .ok (.aastore, 1) := fdf dAb_13.2.2.1
theorem dX1_part_47 : decode cX1_part 47 = .ok (.aload 6, 2) := fdf dAb_13.2.2.2.1
theorem dX1_part_49 : decode cX1_part 49 = .ok (.getfield 68, 3) := fdf dAb_13.2.2.2.2.1
theorem dX1_part_52 : decode cX1_part 52 = .ok (.ireturn, 1) := fdf dAb_13.2.2.2.2.2.1
theorem dX1_set_0 : decode cX1_set 0 = .ok (.aload_n 0, 1) := fdf dAb_13.2.2.2.2.2.2.1
theorem dX1_set_1 : decode cX1_set 1 = .ok (.iload_n 1, 1) := fdf dAb_13.2.2.2.2.2.2.2.1
theorem dX1_set_2 : decode cX1_set 2 = .ok (.invokevirtual 65, 3) := fdf dAb_13.2.2.2.2.2.2.2.2.1
theorem dX1_set_5 : decode cX1_set 5 = .ok (.astore 4, 2) := fdf dAb_13.2.2.2.2.2.2.2.2.2.1
theorem dX1_set_7 : decode cX1_set 7 = .ok (.aload 4, 2) := fdf dAb_13.2.2.2.2.2.2.2.2.2.2.1
theorem dX1_set_9 : decode cX1_set 9 = .ok (.iload_n 2, 1) := fdf dAb_13.2.2.2.2.2.2.2.2.2.2.2.1
theorem dX1_set_10 : decode cX1_set 10 = .ok (.invokestatic 48, 3) := fdf dAb_13.2.2.2.2.2.2.2.2.2.2.2.2.1
theorem dX1_set_13 : decode cX1_set 13 = .ok (.iload_n 3, 1) := fdf dAb_13.2.2.2.2.2.2.2.2.2.2.2.2.2.1
theorem dX1_set_14 : decode cX1_set 14 = .ok (.invokestatic 51, 3) := fdf dAb_13.2.2.2.2.2.2.2.2.2.2.2.2.2.2.1
theorem dX1_set_17 : decode cX1_set 17 = .ok (.aload 4, 2) := fdf dAb_13.2.2.2.2.2.2.2.2.2.2.2.2.2.2.2
theorem dAb_14 : fdq cX1_set 19 (.iload_n 2) 1 = true ∧ fdq cX1_set 20 (.iload_n 3) 1 = true ∧ fdq cX1_set 21 (.invokevirtual 55) 3 = true ∧ fdq cX1_set 24 (.ireturn) 1 = true ∧ fdq cX1_get 0 (.aload_n 0) 1 = true ∧ fdq cX1_get 1 (.iload_n 1) 1 = true ∧ fdq cX1_get 2 (.invokevirtual 65) 3 = true ∧ fdq cX1_get 5 (.astore_n 3) 1 = true ∧ fdq cX1_get 6 (.aload_n 3) 1 = true ∧ fdq cX1_get 7 (.iload_n 2) 1 = true ∧ fdq cX1_get 8 (.invokestatic 48) 3 = true ∧ fdq cX1_get 11 (.aload_n 3) 1 = true ∧ fdq cX1_get 12 (.iload_n 2) 1 = true ∧ fdq cX1_get 13 (.invokevirtual 59) 3 = true ∧ fdq cX1_get 16 (.ireturn) 1 = true ∧ fdq cX1_length 0 (.aload_n 0) 1 = true := by decide +kernel
theorem dX1_set_19 : decode cX1_set 19 = .ok (.iload_n 2, 1) := fdf dAb_14.1
theorem dX1_set_20 : decode cX1_set 20 = .ok (.iload_n 3, 1) := fdf dAb_14.2.1
theorem dX1_set_21 : decode cX1_set 21 = .ok (.invokevirtual 55, 3) := fdf dAb_14.2.2.1
theorem dX1_set_24 : decode cX1_set 24 = .ok (.ireturn, 1) := fdf dAb_14.2.2.2.1
theorem dX1_get_0 : decode cX1_get 0 = .ok (.aload_n 0, 1) := fdf dAb_14.2.2.2.2.1
theorem dX1_get_1 : decode cX1_get 1 = .ok (.iload_n 1, 1) := fdf dAb_14.2.2.2.2.2.1
theorem dX1_get_2 : decode cX1_get 2 = .ok (.invokevirtual 65, 3) := fdf dAb_14.2.2.2.2.2.2.1
theorem dX1_get_5 : decode cX1_get 5 = .ok (.astore_n 3, 1) := fdf dAb_14.2.2.2.2.2.2.2.1
theorem dX1_get_6 : decode cX1_get 6 = .ok (.aload_n 3, 1) := fdf dAb_14.2.2.2.2.2.2.2.2.1
theorem dX1_get_7 : decode cX1_get 7 = .ok (.iload_n 2, 1) := fdf dAb_14.2.2.2.2.2.2.2.2.2.1
theorem dX1_get_8 : decode cX1_get 8 = .ok (.invokestatic 48, 3) := fdf dAb_14.2.2.2.2.2.2.2.2.2.2.1
theorem dX1_get_11 : decode cX1_get 11 = .ok (.aload_n 3, 1) := fdf dAb_14.2.2.2.2.2.2.2.2.2.2.2.1
theorem dX1_get_12 : decode cX1_get 12 = .ok (.iload_n 2, 1) := fdf dAb_14.2.2.2.2.2.2.2.2.2.2.2.2.1
theorem dX1_get_13 : decode cX1_get 13 = .ok (.invokevirtual 59, 3) := fdf dAb_14.2.2.2.2.2.2.2.2.2.2.2.2.2.1
theorem dX1_get_16 : decode cX1_get 16 = .ok (.ireturn, 1) := fdf dAb_14.2.2.2.2.2.2.2.2.2.2.2.2.2.2.1
theorem dX1_length_0 : decode cX1_length 0 = .ok (.aload_n 0, 1) := fdf dAb_14.2.2.2.2.2.2.2.2.2.2.2.2.2.2.2
theorem dAb_15 : fdq cX1_length 1 (.iload_n 1) 1 = true ∧ fdq cX1_length 2 (.invokevirtual 65) 3 = true ∧ fdq cX1_length 5 (.getfield 68) 3 = true ∧ fdq cX1_length 8 (.ireturn) 1 = true ∧ fdq cX1_isEmpty 0 (.aload_n 0) 1 = true ∧ fdq cX1_isEmpty 1 (.iload_n 1) 1 = true ∧ fdq cX1_isEmpty 2 (.invokevirtual 65) 3 = true ∧ fdq cX1_isEmpty 5 (.getfield 68) 3 = true ∧ fdq cX1_isEmpty 8 (.ifCond .ne 7) 3 = true ∧ fdq cX1_isEmpty 11 (.iconst 1) 1 = true ∧ fdq cX1_isEmpty 12 (.goto 4) 3 = true ∧ fdq cX1_isEmpty 15 (.iconst 0) 1 = true ∧ fdq cX1_isEmpty 16 (.ireturn) 1 = true ∧ fdq cX1_text 0 (.aload_n 0) 1 = true ∧ fdq cX1_text 1 (.iload_n 1) 1 = true ∧ fdq cX1_text 2 (.invokevirtual 65) 3 = true := by decide +kernel
theorem dX1_length_1 : decode cX1_length 1 = .ok (.iload_n 1, 1) := fdf dAb_15.1
theorem dX1_length_2 : decode cX1_length 2 = .ok (.invokevirtual 65, 3) := fdf dAb_15.2.1
theorem dX1_length_5 : decode cX1_length 5 = .ok (.getfield 68, 3) := fdf dAb_15.2.2.1
theorem dX1_length_8 : decode cX1_length 8 = .ok (.ireturn, 1) := fdf dAb_15.2.2.2.1
theorem dX1_isEmpty_0 : decode cX1_isEmpty 0 = .ok (.aload_n 0, 1) := fdf dAb_15.2.2.2.2.1
theorem dX1_isEmpty_1 : decode cX1_isEmpty 1 = .ok (.iload_n 1, 1) := fdf dAb_15.2.2.2.2.2.1
theorem dX1_isEmpty_2 : decode cX1_isEmpty 2 = .ok (.invokevirtual 65, 3) := fdf dAb_15.2.2.2.2.2.2.1
theorem dX1_isEmpty_5 : decode cX1_isEmpty 5 = .ok (.getfield 68, 3) := fdf dAb_15.2.2.2.2.2.2.2.1
theorem dX1_isEmpty_8 : decode cX1_isEmpty 8 = .ok (.ifCond .ne 7, 3) := fdf dAb_15.2.2.2.2.2.2.2.2.1
theorem dX1_isEmpty_11 : decode cX1_isEmpty 11 = .ok (.iconst 1, 1) := fdf dAb_15.2.2.2.2.2.2.2.2.2.1
theorem dX1_isEmpty_12 : decode cX1_isEmpty 12 = .ok (.goto 4, 3) := fdf dAb_15.2.2.2.2.2.2.2.2.2.2.1
theorem dX1_isEmpty_15 : decode cX1_isEmpty 15 = .ok (.iconst 0, 1) := fdf dAb_15.2.2.2.2.2.2.2.2.2.2.2.1
theorem dX1_isEmpty_16 : decode cX1_isEmpty 16 = .ok (.ireturn, 1) := fdf dAb_15.2.2.2.2.2.2.2.2.2.2.2.2.1
theorem dX1_text_0 : decode cX1_text 0 = .ok (.aload_n 0, 1) := fdf dAb_15.2.2.2.2.2.2.2.2.2.2.2.2.2.1
theorem dX1_text_1 : decode cX1_text 1 = .ok (.iload_n 1, 1) := fdf dAb_15.2.2.2.2.2.2.2.2.2.2.2.2.2.2.1
theorem dX1_text_2 : decode cX1_text 2 = .ok (.invokevirtual 65, 3) := fdf dAb_15.2.2.2.2.2.2.2.2.2.2.2.2.2.2.2
theorem dAb_16 : fdq cX1_text 5 (.astore_n 2) 1 = true ∧ fdq cX1_text 6 (.aload_n 2) 1 = true ∧ fdq cX1_text 7 (.iconst 0) 1 = true ∧ fdq cX1_text 8 (.aload_n 2) 1 = true ∧ fdq cX1_text 9 (.getfield 68) 3 = true ∧ fdq cX1_text 12 (.iconst 0) 1 = true ∧ fdq cX1_text 13 (.iconst 0) 1 = true ∧ fdq cX1_text 14 (.invokestatic 75) 3 = true ∧ fdq cX1_text 17 (.areturn) 1 = true ∧ fdq cX1_back 0 (.aload_n 0) 1 = true ∧ fdq cX1_back 1 (.iload_n 1) 1 = true ∧ fdq cX1_back 2 (.invokevirtual 65) 3 = true ∧ fdq cX1_back 5 (.astore_n 2) 1 = true ∧ fdq cX1_back 6 (.aload_n 2) 1 = true ∧ fdq cX1_back 7 (.aload_n 2) 1 = true ∧ fdq cX1_back 8 (.getfield 68) 3 = true := by decide +kernel
theorem dX1_text_5 : decode cX1_text 5 = .ok (.astore_n 2, 1) := fdf dAb_16.1
theorem dX1_text_6 : decode cX1_text 6 = .ok (.aload_n 2, 1) := fdf dAb_16.2.1
theorem dX1_text_7 : decode cX1_text 7 = .ok (.iconst 0, 1) := fdf dAb_16.2.2.1
theorem dX1_text_8 : decode cX1_text 8 = .ok (.aload_n 2, 1) := fdf dAb_16.2.2.2.1
theorem dX1_text_9 : decode cX1_text 9 = .ok (.getfield 68, 3) := fdf dAb_16.2.2.2.2.1
theorem dX1_text_12 : decode cX1_text 12 = .ok (.iconst 0, 1) := fdf dAb_16.2.2.2.2.2.1
theorem dX1_text_13 : decode cX1_text 13 = .ok (.iconst 0, 1) := fdf dAb_16.2.2.2.2.2.2.1
theorem dX1_text_14 : decode cX1_text 14 = .ok (.invokestatic 75, 3) := fdf dAb_16.2.2.2.2.2.2.2.1
theorem dX1_text_17 : decode cX1_text 17 = .ok (.areturn, 1) := fdf dAb_16.2.2.2.2.2.2.2.2.1
theorem dX1_back_0 : decode cX1_back 0 = .ok (.aload_n 0, 1) := fdf dAb_16.2.2.2.2.2.2.2.2.2.1
theorem dX1_back_1 : decode cX1_back 1 = .ok (.iload_n 1, 1) := fdf dAb_16.2.2.2.2.2.2.2.2.2.2.1
theorem dX1_back_2 : decode cX1_back 2 = .ok (.invokevirtual 65, 3) := fdf dAb_16.2.2.2.2.2.2.2.2.2.2.2.1
theorem dX1_back_5 : decode cX1_back 5 = .ok (.astore_n 2, 1) := fdf dAb_16.2.2.2.2.2.2.2.2.2.2.2.2.1
theorem dX1_back_6 : decode cX1_back 6 = .ok (.aload_n 2, 1) := fdf dAb_16.2.2.2.2.2.2.2.2.2.2.2.2.2.1
theorem dX1_back_7 : decode cX1_back 7 = .ok (.aload_n 2, 1) := fdf dAb_16.2.2.2.2.2.2.2.2.2.2.2.2.2.2.1
theorem dX1_back_8 : decode cX1_back 8 = .ok (.getfield 68, 3) := fdf dAb_16.2.2.2.2.2.2.2.2.2.2.2.2.2.2.2
theorem dAb_17 : fdq cX1_back 11 (.aload_n 2) 1 = true ∧ fdq cX1_back 12 (.getfield 68) 3 = true ∧ fdq cX1_back 15 (.iconst 1) 1 = true ∧ fdq cX1_back 16 (.iconst 0) 1 = true ∧ fdq cX1_back 17 (.invokestatic 75) 3 = true ∧ fdq cX1_back 20 (.areturn) 1 = true ∧ fdq cX1_indexOf 0 (.aload_n 0) 1 = true ∧ fdq cX1_indexOf 1 (.iload_n 1) 1 = true ∧ fdq cX1_indexOf 2 (.invokevirtual 65) 3 = true ∧ fdq cX1_indexOf 5 (.astore_n 3) 1 = true ∧ fdq cX1_indexOf 6 (.iload_n 2) 1 = true ∧ fdq cX1_indexOf 7 (.invokestatic 51) 3 = true ∧ fdq cX1_indexOf 10 (.aload_n 3) 1 = true ∧ fdq cX1_indexOf 11 (.iload_n 2) 1 = true ∧ fdq cX1_indexOf 12 (.invokestatic 79) 3 = true ∧ fdq cX1_indexOf 15 (.ireturn) 1 = true := by decide +kernel
theorem dX1_back_11 : decode cX1_back 11 = .ok (.aload_n 2, 1) := fdf dAb_17.1
theorem dX1_back_12 : decode cX1_back 12 = .ok (.getfield 68, 3) := fdf dAb_17.2.1
theorem dX1_back_15 : decode cX1_back 15 = .ok (.iconst 1, 1) := fdf dAb_17.2.2.1
theorem dX1_back_16 : decode cX1_back 16 = .ok (.iconst 0, 1) := fdf dAb_17.2.2.2.1
theorem dX1_back_17 : decode cX1_back 17 = .ok (.invokestatic 75, 3) := fdf dAb_17.2.2.2.2.1
theorem dX1_back_20 : decode cX1_back 20 = .ok (.areturn, 1) := fdf dAb_17.2.2.2.2.2.1
theorem dX1_indexOf_0 : decode cX1_indexOf 0 = .ok (.aload_n 0, 1) := fdf dAb_17.2.2.2.2.2.2.1
theorem dX1_indexOf_1 : decode cX1_indexOf 1 = .ok (.iload_n 1, 1) := fdf dAb_17.2.2.2.2.2.2.2.1
theorem dX1_indexOf_2 : decode cX1_indexOf 2 = .ok (.invokevirtual 65, 3) := fdf dAb_17.2.2.2.2.2.2.2.2.1
theorem dX1_indexOf_5 : decode cX1_indexOf 5 = .ok (.astore_n 3, 1) := fdf dAb_17.2.2.2.2.2.2.2.2.2.1
theorem dX1_indexOf_6 : decode cX1_indexOf 6 = .ok (.iload_n 2, 1) := fdf dAb_17.2.2.2.2.2.2.2.2.2.2.1
theorem dX1_indexOf_7 : decode cX1_indexOf 7 = .ok (.invokestatic 51, 3) := fdf dAb_17.2.2.2.2.2.2.2.2.2.2.2.1
theorem dX1_indexOf_10 : decode cX1_indexOf 10 = .ok (.aload_n 3, 1) := fdf dAb_17.2.2.2.2.2.2.2.2.2.2.2.2.1
theorem dX1_indexOf_11 : decode cX1_indexOf 11 = .ok (.iload_n 2, 1) := fdf dAb_17.2.2.2.2.2.2.2.2.2.2.2.2.2.1
theorem dX1_indexOf_12 : decode cX1_indexOf 12 = .ok (.invokestatic 79, 3) := fdf dAb_17.2.2.2.2.2.2.2.2.2.2.2.2.2.2.1
theorem dX1_indexOf_15 : decode cX1_indexOf 15 = .ok (.ireturn, 1) := fdf dAb_17.2.2.2.2.2.2.2.2.2.2.2.2.2.2.2
theorem dAb_18 : fdq cX1_lastIndexOf 0 (.aload_n 0) 1 = true ∧ fdq cX1_lastIndexOf 1 (.iload_n 1) 1 = true ∧ fdq cX1_lastIndexOf 2 (.invokevirtual 65) 3 = true ∧ fdq cX1_lastIndexOf 5 (.astore_n 3) 1 = true ∧ fdq cX1_lastIndexOf 6 (.iload_n 2) 1 = true ∧ fdq cX1_lastIndexOf 7 (.invokestatic 51) 3 = true ∧ fdq cX1_lastIndexOf 10 (.aload_n 3) 1 = true ∧ fdq cX1_lastIndexOf 11 (.iload_n 2) 1 = true ∧ fdq cX1_lastIndexOf 12 (.invokestatic 83) 3 = true ∧ fdq cX1_lastIndexOf 15 (.ireturn) 1 = true ∧ fdq cX1_has 0 (.aload_n 0) 1 = true ∧ fdq cX1_has 1 (.iload_n 1) 1 = true ∧ fdq cX1_has 2 (.invokevirtual 65) 3 = true ∧ fdq cX1_has 5 (.astore_n 3) 1 = true ∧ fdq cX1_has 6 (.iload_n 2) 1 = true ∧ fdq cX1_has 7 (.invokestatic 51) 3 = true := by decide +kernel
theorem dX1_lastIndexOf_0 : decode cX1_lastIndexOf 0 = .ok (.aload_n 0, 1) := fdf dAb_18.1
theorem dX1_lastIndexOf_1 : decode cX1_lastIndexOf 1 = .ok (.iload_n 1, 1) := fdf dAb_18.2.1
theorem dX1_lastIndexOf_2 : decode cX1_lastIndexOf 2 = .ok (.invokevirtual 65, 3) := fdf dAb_18.2.2.1
theorem dX1_lastIndexOf_5 : decode cX1_lastIndexOf 5 = .ok (.astore_n 3, 1) := fdf dAb_18.2.2.2.1
theorem dX1_lastIndexOf_6 : decode cX1_lastIndexOf 6 = .ok (.iload_n 2, 1) := fdf dAb_18.2.2.2.2.1
theorem dX1_lastIndexOf_7 : decode cX1_lastIndexOf 7 = .ok (.invokestatic 51, 3) := fdf dAb_18.2.2.2.2.2.1
theorem dX1_lastIndexOf_10 : decode cX1_lastIndexOf 10 = .ok (.aload_n 3, 1) := fdf dAb_18.2.2.2.2.2.2.1
theorem dX1_lastIndexOf_11 : decode cX1_lastIndexOf 11 = .ok (.iload_n 2, 1) := fdf dAb_18.2.2.2.2.2.2.2.1
theorem dX1_lastIndexOf_12 : decode cX1_lastIndexOf 12 = .ok (.invokestatic 83, 3) := fdf dAb_18.2.2.2.2.2.2.2.2.1
theorem dX1_lastIndexOf_15 : decode cX1_lastIndexOf 15 = .ok (.ireturn, 1) := fdf dAb_18.2.2.2.2.2.2.2.2.2.1
theorem dX1_has_0 : decode cX1_has 0 = .ok (.aload_n 0, 1) := fdf dAb_18.2.2.2.2.2.2.2.2.2.2.1
theorem dX1_has_1 : decode cX1_has 1 = .ok (.iload_n 1, 1) := fdf dAb_18.2.2.2.2.2.2.2.2.2.2.2.1
theorem dX1_has_2 : decode cX1_has 2 = .ok (.invokevirtual 65, 3) := fdf dAb_18.2.2.2.2.2.2.2.2.2.2.2.2.1
theorem dX1_has_5 : decode cX1_has 5 = .ok (.astore_n 3, 1) := fdf dAb_18.2.2.2.2.2.2.2.2.2.2.2.2.2.1
theorem dX1_has_6 : decode cX1_has 6 = .ok (.iload_n 2, 1) := fdf dAb_18.2.2.2.2.2.2.2.2.2.2.2.2.2.2.1
theorem dX1_has_7 : decode cX1_has 7 = .ok (.invokestatic 51, 3) := fdf dAb_18.2.2.2.2.2.2.2.2.2.2.2.2.2.2.2
theorem dAb_19 : fdq cX1_has 10 (.aload_n 3) 1 = true ∧ fdq cX1_has 11 (.iload_n 2) 1 = true ∧ fdq cX1_has 12 (.invokestatic 86) 3 = true ∧ fdq cX1_has 15 (.ireturn) 1 = true ∧ fdq cX1_often 0 (.aload_n 0) 1 = true ∧ fdq cX1_often 1 (.iload_n 1) 1 = true ∧ fdq cX1_often 2 (.invokevirtual 65) 3 = true ∧ fdq cX1_often 5 (.astore_n 3) 1 = true ∧ fdq cX1_often 6 (.iload_n 2) 1 = true ∧ fdq cX1_often 7 (.invokestatic 51) 3 = true ∧ fdq cX1_often 10 (.iconst 0) 1 = true ∧ fdq cX1_often 11 (.istore 4) 2 = true ∧ fdq cX1_often 13 (.iconst 0) 1 = true ∧ fdq cX1_often 14 (.istore 5) 2 = true ∧ fdq cX1_often 16 (.iload 5) 2 = true ∧ fdq cX1_often 18 (.aload_n 3) 1 = true := by decide +kernel
theorem dX1_has_10 : decode cX1_has 10 = .ok (.aload_n 3, 1) := fdf dAb_19.1
theorem dX1_has_11 : decode cX1_has 11 = .ok (.iload_n 2, 1) := fdf dAb_19.2.1
theorem dX1_has_12 : decode cX1_has 12 = .ok (.invokestatic 86, 3) := fdf dAb_19.2.2.1
theorem dX1_has_15 : decode cX1_has 15 = .ok (.ireturn, 1) := fdf dAb_19.2.2.2.1
theorem dX1_often_0 : decode cX1_often 0 = .ok (.aload_n 0, 1) := fdf dAb_19.2.2.2.2.1
theorem dX1_often_1 : decode cX1_often 1 = .ok (.iload_n 1, 1) := fdf dAb_19.2.2.2.2.2.1
theorem dX1_often_2 : decode cX1_often 2 = .ok (.invokevirtual 65, 3) := fdf dAb_19.2.2.2.2.2.2.1
theorem dX1_often_5 : decode cX1_often 5 = .ok (.astore_n 3, 1) := fdf dAb_19.2.2.2.2.2.2.2.1
theorem dX1_often_6 : decode cX1_often 6 = .ok (.iload_n 2, 1) := fdf dAb_19.2.2.2.2.2.2.2.2.1
theorem dX1_often_7 : decode cX1_often 7 = .ok (.invokestatic 51, 3) := fdf dAb_19.2.2.2.2.2.2.2.2.2.1
theorem dX1_often_10 : decode cX1_often 10 = .ok (.iconst 0, 1) := fdf dAb_19.2.2.2.2.2.2.2.2.2.2.1
theorem dX1_often_11 : decode cX1_often 11 = .ok (.istore 4, 2) := fdf dAb_19.2.2.2.2.2.2.2.2.2.2.2.1
theorem dX1_often_13 : decode cX1_often 13 = .ok (.iconst 0, 1) := fdf dAb_19.2.2.2.2.2.2.2.2.2.2.2.2.1
theorem dX1_often_14 : decode cX1_often 14 = .ok (.istore 5, 2) := fdf dAb_19.2.2.2.2.2.2.2.2.2.2.2.2.2.1
theorem dX1_often_16 : decode cX1_often 16 = .ok (.iload 5, 2) := fdf dAb_19.2.2.2.2.2.2.2.2.2.2.2.2.2.2.1
theorem dX1_often_18 : decode cX1_often 18 = .ok (.aload_n 3, 1) := fdf dAb_19.2.2.2.2.2.2.2.2.2.2.2.2.2.2.2
theorem dAb_20 : fdq cX1_often 19 (.getfield 68) 3 = true ∧ fdq cX1_often 22 (.if_icmp .ge 29) 3 = true ∧ fdq cX1_often 25 (.iload 4) 2 = true ∧ fdq cX1_often 27 (.aload_n 3) 1 = true ∧ fdq cX1_often 28 (.iload 5) 2 = true ∧ fdq cX1_often 30 (.invokevirtual 59) 3 = true ∧ fdq cX1_often 33 (.iload_n 2) 1 = true ∧ fdq cX1_often 34 (.if_icmp .ne 7) 3 = true ∧ fdq cX1_often 37 (.iconst 1) 1 = true ∧ fdq cX1_often 38 (.goto 4) 3 = true ∧ fdq cX1_often 41 (.iconst 0) 1 = true ∧ fdq cX1_often 42 (.iadd) 1 = true ∧ fdq cX1_often 43 (.istore 4) 2 = true ∧ fdq cX1_often 45 (.iinc 5 1) 3 = true ∧ fdq cX1_often 48 (.goto (-32)) 3 = true ∧ fdq cX1_often 51 (.iload 4) 2 = true := by decide +kernel
theorem dX1_often_19 : decode cX1_often 19 = .ok (.getfield 68, 3) := fdf dAb_20.1
theorem dX1_often_22 : decode cX1_often 22 = .ok (.if_icmp .ge 29, 3) := fdf dAb_20.2.1
theorem dX1_often_25 : decode cX1_often 25 = .ok (.iload 4, 2) := fdf dAb_20.2.2.1
theorem dX1_often_27 : decode cX1_often 27 = .ok (.aload_n 3, 1) := fdf dAb_20.2.2.2.1
theorem dX1_often_28 : decode cX1_often 28 = .ok (.iload 5, 2) := fdf dAb_20.2.2.2.2.1
theorem dX1_often_30 : decode cX1_often 30 = .ok (.invokevirtual 59, 3) := fdf dAb_20.2.2.2.2.2.1
theorem dX1_often_33 : decode cX1_often 33 = .ok (.iload_n 2, 1) := fdf dAb_20.2.2.2.2.2.2.1
theorem dX1_often_34 : decode cX1_often 34 = .ok (.if_icmp .ne 7, 3) := fdf dAb_20.2.2.2.2.2.2.2.1
theorem dX1_often_37 : decode cX1_often 37 = .ok (.iconst 1, 1) := fdf dAb_20.2.2.2.2.2.2.2.2.1
theorem dX1_often_38 : decode cX1_often 38 = .ok (.goto 4, 3) := fdf dAb_20.2.2.2.2.2.2.2.2.2.1
theorem dX1_often_41 : decode cX1_often 41 = .ok (.iconst 0, 1) := fdf dAb_20.2.2.2.2.2.2.2.2.2.2.1
theorem dX1_often_42 : decode cX1_often 42 = .ok (.iadd, 1) := fdf dAb_20.2.2.2.2.2.2.2.2.2.2.2.1
theorem dX1_often_43 : decode cX1_often 43 = .ok (.istore 4, 2) := fdf dAb_20.2.2.2.2.2.2.2.2.2.2.2.2.1
theorem dX1_often_45 : decode cX1_often 45 = .ok (.iinc 5 1, 3) := fdf dAb_20.2.2.2.2.2.2.2.2.2.2.2.2.2.1
theorem dX1_often_48 : decode cX1_often 48 = .ok (.goto (-32), 3) := fdf dAb_20.2.2.2.2.2.2.2.2.2.2.2.2.2.2.1
theorem dX1_often_51 : decode cX1_often 51 = .ok (.iload 4, 2) := fdf dAb_20.2.2.2.2.2.2.2.2.2.2.2.2.2.2.2
theorem dAb_21 : fdq cX1_often 53 (.ireturn) 1 = true ∧ fdq cX1_hasAll 0 (.aload_n 0) 1 = true ∧ fdq cX1_hasAll 1 (.iload_n 1) 1 = true ∧ fdq cX1_hasAll 2 (.invokevirtual 65) 3 = true ∧ fdq cX1_hasAll 5 (.astore_n 3) 1 = true ∧ fdq cX1_hasAll 6 (.aload_n 0) 1 = true ∧ fdq cX1_hasAll 7 (.iload_n 2) 1 = true ∧ fdq cX1_hasAll 8 (.invokevirtual 65) 3 = true ∧ fdq cX1_hasAll 11 (.aload_n 3) 1 = true ∧ fdq cX1_hasAll 12 (.iconst 0) 1 = true ∧ fdq cX1_hasAll 13 (.invokestatic 90) 3 = true ∧ fdq cX1_hasAll 16 (.ifCond .ne 7) 3 = true ∧ fdq cX1_hasAll 19 (.iconst 1) 1 = true ∧ fdq cX1_hasAll 20 (.goto 4) 3 = true ∧ fdq cX1_hasAll 23 (.iconst 0) 1 = true ∧ fdq cX1_hasAll 24 (.ireturn) 1 = true := by decide +kernel
theorem dX1_often_53 : decode cX1_often 53 = .ok (.ireturn, 1) := fdf dAb_21.1
theorem dX1_hasAll_0 : decode cX1_hasAll 0 = .ok (.aload_n 0, 1) := fdf dAb_21.2.1
theorem dX1_hasAll_1 : decode cX1_hasAll 1 = .ok (.iload_n 1, 1) := fdf dAb_21.2.2.1
theorem dX1_hasAll_2 : decode cX1_hasAll 2 = .ok (.invokevirtual 65, 3) := fdf dAb_21.2.2.2.1
theorem dX1_hasAll_5 : decode cX1_hasAll 5 = .ok (.astore_n 3, 1) := fdf dAb_21.2.2.2.2.1
theorem dX1_hasAll_6 : decode cX1_hasAll 6 = .ok (.aload_n 0, 1) := fdf dAb_21.2.2.2.2.2.1
theorem dX1_hasAll_7 : decode cX1_hasAll 7 = .ok (.iload_n 2, 1) := fdf dAb_21.2.2.2.2.2.2.1
theorem dX1_hasAll_8 : decode cX1_hasAll 8 = .ok (.invokevirtual 65, 3) := fdf dAb_21.2.2.2.2.2.2.2.1
theorem dX1_hasAll_11 : decode cX1_hasAll 11 = .ok (.aload_n 3, 1) := fdf dAb_21.2.2.2.2.2.2.2.2.1
theorem dX1_hasAll_12 : decode cX1_hasAll 12 = .ok (.iconst 0, 1) := fdf dAb_21.2.2.2.2.2.2.2.2.2.1
theorem dX1_hasAll_13 : decode cX1_hasAll 13 = .ok (.invokestatic 90, 3) := fdf dAb_21.2.2.2.2.2.2.2.2.2.2.1
theorem dX1_hasAll_16 : decode cX1_hasAll 16 = .ok (.ifCond .ne 7, 3) := fdf dAb_21.2.2.2.2.2.2.2.2.2.2.2.1
theorem dX1_hasAll_19 : decode cX1_hasAll 19 = .ok (.iconst 1, 1) := fdf dAb_21.2.2.2.2.2.2.2.2.2.2.2.2.1
theorem dX1_hasAll_20 : decode cX1_hasAll 20 = .ok (.goto 4, 3) := fdf dAb_21.2.2.2.2.2.2.2.2.2.2.2.2.2.1
theorem dX1_hasAll_23 : decode cX1_hasAll 23 = .ok (.iconst 0, 1) := fdf dAb_21.2.2.2.2.2.2.2.2.2.2.2.2.2.2.1
theorem dX1_hasAll_24 : decode cX1_hasAll 24 = .ok (.ireturn, 1) := fdf dAb_21.2.2.2.2.2.2.2.2.2.2.2.2.2.2.2
theorem dAb_22 : fdq cX1_areApart 0 (.aload_n 0) 1 = true ∧ fdq cX1_areApart 1 (.iload_n 1) 1 = true ∧ fdq cX1_areApart 2 (.invokevirtual 65) 3 = true ∧ fdq cX1_areApart 5 (.astore_n 3) 1 = true ∧ fdq cX1_areApart 6 (.aload_n 3) 1 = true ∧ fdq cX1_areApart 7 (.aload_n 0) 1 = true ∧ fdq cX1_areApart 8 (.iload_n 2) 1 = true ∧ fdq cX1_areApart 9 (.invokevirtual 65) 3 = true ∧ fdq cX1_areApart 12 (.iconst 1) 1 = true ∧ fdq cX1_areApart 13 (.invokestatic 90) 3 = true ∧ fdq cX1_areApart 16 (.ifCond .ne 7) 3 = true ∧ fdq cX1_areApart 19 (.iconst 1) 1 = true ∧ fdq cX1_areApart 20 (.goto 4) 3 = true ∧ fdq cX1_areApart 23 (.iconst 0) 1 = true ∧ fdq cX1_areApart 24 (.ireturn) 1 = true ∧ fdq cX1_indexOfAll 0 (.aload_n 0) 1 = true := by decide +kernel
theorem dX1_areApart_0 : decode cX1_areApart 0 = .ok (.aload_n 0, 1) := fdf dAb_22.1
theorem dX1_areApart_1 : decode cX1_areApart 1 = .ok (.iload_n 1, 1) := fdf dAb_22.2.1
theorem dX1_areApart_2 : decode cX1_areApart 2 = .ok (.invokevirtual 65, 3) := fdf dAb_22.2.2.1
theorem dX1_areApart_5 : decode cX1_areApart 5 = .ok (.astore_n 3, 1) := fdf dAb_22.2.2.2.1
theorem dX1_areApart_6 : decode cX1_areApart 6 = .ok (.aload_n 3, 1) := fdf dAb_22.2.2.2.2.1
theorem dX1_areApart_7 : decode cX1_areApart 7 = .ok (.aload_n 0, 1) := fdf dAb_22.2.2.2.2.2.1
theorem dX1_areApart_8 : decode cX1_areApart 8 = .ok (.iload_n 2, 1) := fdf dAb_22.2.2.2.2.2.2.1
theorem dX1_areApart_9 : decode cX1_areApart 9 = .ok (.invokevirtual 65, 3) := fdf dAb_22.2.2.2.2.2.2.2.1
theorem dX1_areApart_12 : decode cX1_areApart 12 = .ok (.iconst 1, 1) := fdf dAb_22.2.2.2.2.2.2.2.2.1
theorem dX1_areApart_13 : decode cX1_areApart 13 = .ok (.invokestatic 90, 3) := fdf dAb_22.2.2.2.2.2.2.2.2.2.1
theorem dX1_areApart_16 : decode cX1_areApart 16 = .ok (.ifCond .ne 7, 3) := fdf dAb_22.2.2.2.2.2.2.2.2.2.2.1
theorem dX1_areApart_19 : decode cX1_areApart 19 = .ok (.iconst 1, 1) := fdf dAb_22.2.2.2.2.2.2.2.2.2.2.2.1
theorem dX1_areApart_20 : decode cX1_areApart 20 = .ok (.goto 4, 3) := fdf dAb_22.2.2.2.2.2.2.2.2.2.2.2.2.1
theorem dX1_areApart_23 : decode cX1_areApart 23 = .ok (.iconst 0, 1) := fdf dAb_22.2.2.2.2.2.2.2.2.2.2.2.2.2.1
theorem dX1_areApart_24 : decode cX1_areApart 24 = .ok (.ireturn, 1) := fdf dAb_22.2.2.2.2.2.2.2.2.2.2.2.2.2.2.1
theorem dX1_indexOfAll_0 : decode cX1_indexOfAll 0 = .ok (.aload_n 0, 1) := fdf dAb_22.2.2.2.2.2.2.2.2.2.2.2.2.2.2.2
theorem dAb_23 : fdq cX1_indexOfAll 1 (.iload_n 1) 1 = true ∧ fdq cX1_indexOfAll 2 (.invokevirtual 65) 3 = true ∧ fdq cX1_indexOfAll 5 (.astore_n 3) 1 = true ∧ fdq cX1_indexOfAll 6 (.aload_n 0) 1 = true ∧ fdq cX1_indexOfAll 7 (.iload_n 2) 1 = true ∧ fdq cX1_indexOfAll 8 (.invokevirtual 65) 3 = true ∧ fdq cX1_indexOfAll 11 (.astore 4) 2 = true ∧ fdq cX1_indexOfAll 13 (.iconst 0) 1 = true ∧ fdq cX1_indexOfAll 14 (.istore 5) 2 = true ∧ fdq cX1_indexOfAll 16 (.iload 5) 2 = true ∧ fdq cX1_indexOfAll 18 (.aload_n 3) 1 = true ∧ fdq cX1_indexOfAll 19 (.getfield 68) 3 = true ∧ fdq cX1_indexOfAll 22 (.aload 4) 2 = true ∧ fdq cX1_indexOfAll 24 (.getfield 68) 3 = true ∧ fdq cX1_indexOfAll 27 (.isub) 1 = true ∧ fdq cX1_indexOfAll 28 (.if_icmp .gt 23) 3 = true := by decide +kernel
theorem dX1_indexOfAll_1 : decode cX1_indexOfAll 1 = .ok (.iload_n 1, 1) := fdf dAb_23.1
theorem dX1_indexOfAll_2 : decode cX1_indexOfAll 2 = .ok (.invokevirtual 65, 3) := fdf dAb_23.2.1
theorem dX1_indexOfAll_5 : decode cX1_indexOfAll 5 = .ok (.astore_n 3, 1) := fdf dAb_23.2.2.1
theorem dX1_indexOfAll_6 : decode cX1_indexOfAll 6 = .ok (.aload_n 0, 1) := fdf dAb_23.2.2.2.1
theorem dX1_indexOfAll_7 : decode cX1_indexOfAll 7 = .ok (.iload_n 2, 1) := fdf dAb_23.2.2.2.2.1
theorem dX1_indexOfAll_8 : decode cX1_indexOfAll 8 = .ok (.invokevirtual 65, 3) := fdf dAb_23.2.2.2.2.2.1
theorem dX1_indexOfAll_11 : decode cX1_indexOfAll 11 = .ok (.astore 4, 2) := fdf dAb_23.2.2.2.2.2.2.1
theorem dX1_indexOfAll_13 : decode cX1_indexOfAll 13 = .ok (.iconst 0, 1) := fdf dAb_23.2.2.2.2.2.2.2.1
theorem dX1_indexOfAll_14 : decode cX1_indexOfAll 14 = .ok (.istore 5, 2) := fdf dAb_23.2.2.2.2.2.2.2.2.1
theorem dX1_indexOfAll_16 : decode cX1_indexOfAll 16 = .ok (.iload 5, 2) := fdf dAb_23.2.2.2.2.2.2.2.2.2.1
theorem dX1_indexOfAll_18 : decode cX1_indexOfAll 18 = .ok (.aload_n 3, 1) := fdf dAb_23.2.2.2.2.2.2.2.2.2.2.1
theorem dX1_indexOfAll_19 : decode cX1_indexOfAll 19 = .ok (.getfield 68, 3) := fdf dAb_23.2.2.2.2.2.2.2.2.2.2.2.1
theorem dX1_indexOfAll_22 : decode cX1_indexOfAll 22 = .ok (.aload 4, 2) := fdf dAb_23.2.2.2.2.2.2.2.2.2.2.2.2.1
theorem dX1_indexOfAll_24 : decode cX1_indexOfAll 24 = .ok (.getfield 68, 3) := fdf dAb_23.2.2.2.2.2.2.2.2.2.2.2.2.2.1
theorem dX1_indexOfAll_27 : decode cX1_indexOfAll 27 = .ok (.isub, 1) := fdf dAb_23.2.2.2.2.2.2.2.2.2.2.2.2.2.2.1
theorem dX1_indexOfAll_28 : decode cX1_indexOfAll 28 = .ok (.if_icmp .gt 23, 3) := fdf dAb_23.2.2.2.2.2.2.2.2.2.2.2.2.2.2.2
theorem dAb_24 : fdq cX1_indexOfAll 31 (.aload_n 3) 1 = true ∧ fdq cX1_indexOfAll 32 (.iload 5) 2 = true ∧ fdq cX1_indexOfAll 34 (.aload 4) 2 = true ∧ fdq cX1_indexOfAll 36 (.invokestatic 94) 3 = true ∧ fdq cX1_indexOfAll 39 (.ifCond .eq 6) 3 = true ∧ fdq cX1_indexOfAll 42 (.iload 5) 2 = true ∧ fdq cX1_indexOfAll 44 (.ireturn) 1 = true ∧ fdq cX1_indexOfAll 45 (.iinc 5 1) 3 = true ∧ fdq cX1_indexOfAll 48 (.goto (-32)) 3 = true ∧ fdq cX1_indexOfAll 51 (.iconst (-1)) 1 = true ∧ fdq cX1_indexOfAll 52 (.ireturn) 1 = true ∧ fdq cX1_areEqual 0 (.aload_n 0) 1 = true ∧ fdq cX1_areEqual 1 (.iload_n 1) 1 = true ∧ fdq cX1_areEqual 2 (.invokevirtual 65) 3 = true ∧ fdq cX1_areEqual 5 (.astore_n 3) 1 = true ∧ fdq cX1_areEqual 6 (.aload_n 3) 1 = true := by decide +kernel
theorem dX1_indexOfAll_31 : decode cX1_indexOfAll 31 = .ok (.aload_n 3, 1) := fdf dAb_24.1
theorem dX1_indexOfAll_32 : decode cX1_indexOfAll 32 = .ok (.iload 5, 2) := fdf dAb_24.2.1
theorem dX1_indexOfAll_34 : decode cX1_indexOfAll 34 = .ok (.aload 4, 2) := fdf dAb_24.2.2.1
theorem dX1_indexOfAll_36 : decode cX1_indexOfAll 36 = .ok (.invokestatic 94, 3) := fdf dAb_24.2.2.2.1
theorem dX1_indexOfAll_39 : decode cX1_indexOfAll 39 = .ok (.ifCond .eq 6, 3) := fdf dAb_24.2.2.2.2.1
theorem dX1_indexOfAll_42 : decode cX1_indexOfAll 42 = .ok (.iload 5, 2) := fdf dAb_24.2.2.2.2.2.1
theorem dX1_indexOfAll_44 : decode cX1_indexOfAll 44 = .ok (.ireturn, 1) := fdf dAb_24.2.2.2.2.2.2.1
theorem dX1_indexOfAll_45 : decode cX1_indexOfAll 45 = .ok (.iinc 5 1, 3) := fdf dAb_24.2.2.2.2.2.2.2.1
theorem dX1_indexOfAll_48 : decode cX1_indexOfAll 48 = .ok (.goto (-32), 3) := fdf dAb_24.2.2.2.2.2.2.2.2.1
theorem dX1_indexOfAll_51 : decode cX1_indexOfAll 51 = .ok (.iconst (-1), 1) := fdf dAb_24.2.2.2.2.2.2.2.2.2.1
theorem dX1_indexOfAll_52 : decode cX1_indexOfAll 52 = .ok (.ireturn, 1) := fdf dAb_24.2.2.2.2.2.2.2.2.2.2.1
theorem dX1_areEqual_0 : decode cX1_areEqual 0 = .ok (.aload_n 0, 1) := fdf dAb_24.2.2.2.2.2.2.2.2.2.2.2.1
theorem dX1_areEqual_1 : decode cX1_areEqual 1 = .ok (.iload_n 1, 1) := fdf dAb_24.2.2.2.2.2.2.2.2.2.2.2.2.1
theorem dX1_areEqual_2 : decode cX1_areEqual 2 = .ok (.invokevirtual 65, 3) := fdf dAb_24.2.2.2.2.2.2.2.2.2.2.2.2.2.1
theorem dX1_areEqual_5 : decode cX1_areEqual 5 = .ok (.astore_n 3, 1) := fdf dAb_24.2.2.2.2.2.2.2.2.2.2.2.2.2.2.1
theorem dX1_areEqual_6 : decode cX1_areEqual 6 = .ok (.aload_n 3, 1) := fdf dAb_24.2.2.2.2.2.2.2.2.2.2.2.2.2.2.2
theorem dAb_25 : fdq cX1_areEqual 7 (.aload_n 0) 1 = true ∧ fdq cX1_areEqual 8 (.iload_n 2) 1 = true ∧ fdq cX1_areEqual 9 (.invokevirtual 65) 3 = true ∧ fdq cX1_areEqual 12 (.invokestatic 98) 3 = true ∧ fdq cX1_areEqual 15 (.ireturn) 1 = true ∧ fdq cX1_code 0 (.aload_n 0) 1 = true ∧ fdq cX1_code 1 (.iload_n 1) 1 = true ∧ fdq cX1_code 2 (.invokevirtual 65) 3 = true ∧ fdq cX1_code 5 (.astore_n 2) 1 = true ∧ fdq cX1_code 6 (.aload_n 2) 1 = true ∧ fdq cX1_code 7 (.iconst 0) 1 = true ∧ fdq cX1_code 8 (.aload_n 2) 1 = true ∧ fdq cX1_code 9 (.getfield 68) 3 = true ∧ fdq cX1_code 12 (.invokestatic 102) 3 = true ∧ fdq cX1_code 15 (.ireturn) 1 = true ∧ fdq cX1_walk 0 (.aload_n 0) 1 = true := by decide +kernel
theorem dX1_areEqual_7 : decode cX1_areEqual 7 = .ok (.aload_n 0, 1) := fdf dAb_25.1
theorem dX1_areEqual_8 : decode cX1_areEqual 8 = .ok (.iload_n 2, 1) := fdf dAb_25.2.1
theorem dX1_areEqual_9 : decode cX1_areEqual 9 = .ok (.invokevirtual 65, 3) := fdf dAb_25.2.2.1
theorem dX1_areEqual_12 : decode cX1_areEqual 12 = .ok (.invokestatic 98, 3) := fdf dAb_25.2.2.2.1
theorem dX1_areEqual_15 : decode cX1_areEqual 15 = .ok (.ireturn, 1) := fdf dAb_25.2.2.2.2.1
theorem dX1_code_0 : decode cX1_code 0 = .ok (.aload_n 0, 1) := fdf dAb_25.2.2.2.2.2.1
theorem dX1_code_1 : decode cX1_code 1 = .ok (.iload_n 1, 1) := fdf dAb_25.2.2.2.2.2.2.1
theorem dX1_code_2 : decode cX1_code 2 = .ok (.invokevirtual 65, 3) := fdf dAb_25.2.2.2.2.2.2.2.1
theorem dX1_code_5 : decode cX1_code 5 = .ok (.astore_n 2, 1) := fdf dAb_25.2.2.2.2.2.2.2.2.1
theorem dX1_code_6 : decode cX1_code 6 = .ok (.aload_n 2, 1) := fdf dAb_25.2.2.2.2.2.2.2.2.2.1
theorem dX1_code_7 : decode cX1_code 7 = .ok (.iconst 0, 1) := fdf dAb_25.2.2.2.2.2.2.2.2.2.2.1
theorem dX1_code_8 : decode cX1_code 8 = .ok (.aload_n 2, 1) := fdf dAb_25.2.2.2.2.2.2.2.2.2.2.2.1
theorem dX1_code_9 : decode cX1_code 9 = .ok (.getfield 68, 3) := fdf dAb_25.2.2.2.2.2.2.2.2.2.2.2.2.1
theorem dX1_code_12 : decode cX1_code 12 = .ok (.invokestatic 102, 3) := fdf dAb_25.2.2.2.2.2.2.2.2.2.2.2.2.2.1
theorem dX1_code_15 : decode cX1_code 15 = .ok (.ireturn, 1) := fdf dAb_25.2.2.2.2.2.2.2.2.2.2.2.2.2.2.1
theorem dX1_walk_0 : decode cX1_walk 0 = .ok (.aload_n 0, 1) := fdf dAb_25.2.2.2.2.2.2.2.2.2.2.2.2.2.2.2
theorem dAb_26 : fdq cX1_walk 1 (.iload_n 1) 1 = true ∧ fdq cX1_walk 2 (.invokevirtual 65) 3 = true ∧ fdq cX1_walk 5 (.astore 5) 2 = true ∧ fdq cX1_walk 7 (.iload_n 2) 1 = true ∧ fdq cX1_walk 8 (.iconst 0) 1 = true ∧ fdq cX1_walk 9 (.aload 5) 2 = true ∧ fdq cX1_walk 11 (.getfield 68) 3 = true ∧ fdq cX1_walk 14 (.invokestatic 33) 3 = true ∧ fdq cX1_walk 17 (.iload_n 3) 1 = true ∧ fdq cX1_walk 18 (.iconst 0) 1 = true ∧ fdq cX1_walk 19 (.bipush 12) 2 = true ∧ fdq cX1_walk 21 (.invokestatic 33) 3 = true ∧ fdq cX1_walk 24 (.iload_n 3) 1 = true ∧ fdq cX1_walk 25 (.aload 5) 2 = true ∧ fdq cX1_walk 27 (.iload_n 2) 1 = true ∧ fdq cX1_walk 28 (.iload 4) 2 = true := by decide +kernel
theorem dX1_walk_1 : decode cX1_walk 1 = .ok (.iload_n 1, 1) := fdf dAb_26.1
theorem dX1_walk_2 : decode cX1_walk 2 = .ok (.invokevirtual 65, 3) := fdf dAb_26.2.1
theorem dX1_walk_5 : decode cX1_walk 5 = .ok (.astore 5, 2) := fdf dAb_26.2.2.1
theorem dX1_walk_7 : decode cX1_walk 7 = .ok (.iload_n 2, 1) := fdf dAb_26.2.2.2.1
theorem dX1_walk_8 : decode cX1_walk 8 = .ok (.iconst 0, 1) := fdf dAb_26.2.2.2.2.1
theorem dX1_walk_9 : decode cX1_walk 9 = .ok (.aload 5, 2) := fdf dAb_26.2.2.2.2.2.1
theorem dX1_walk_11 : decode cX1_walk 11 = .ok (.getfield 68, 3) := fdf dAb_26.2.2.2.2.2.2.1
theorem dX1_walk_14 : decode cX1_walk 14 = .ok (.invokestatic 33, 3) := fdf dAb_26.2.2.2.2.2.2.2.1
theorem dX1_walk_17 : decode cX1_walk 17 = .ok (.iload_n 3, 1) := fdf dAb_26.2.2.2.2.2.2.2.2.1
theorem dX1_walk_18 : decode cX1_walk 18 = .ok (.iconst 0, 1) := fdf dAb_26.2.2.2.2.2.2.2.2.2.1
theorem dX1_walk_19 : decode cX1_walk 19 = .ok (.bipush 12, 2) := fdf dAb_26.2.2.2.2.2.2.2.2.2.2.1
theorem dX1_walk_21 : decode cX1_walk 21 = .ok (.invokestatic 33, 3) := fdf dAb_26.2.2.2.2.2.2.2.2.2.2.2.1
theorem dX1_walk_24 : decode cX1_walk 24 = .ok (.iload_n 3, 1) := fdf dAb_26.2.2.2.2.2.2.2.2.2.2.2.2.1
theorem dX1_walk_25 : decode cX1_walk 25 = .ok (.aload 5, 2) := fdf dAb_26.2.2.2.2.2.2.2.2.2.2.2.2.2.1
theorem dX1_walk_27 : decode cX1_walk 27 = .ok (.iload_n 2, 1) := fdf dAb_26.2.2.2.2.2.2.2.2.2.2.2.2.2.2.1
theorem dX1_walk_28 : decode cX1_walk 28 = .ok (.iload 4, 2) := fdf dAb_26.2.2.2.2.2.2.2.2.2.2.2.2.2.2.2
theorem dAb_27 : fdq cX1_walk 30 (.invokestatic 106) 3 = true ∧ fdq cX1_walk 33 (.invokestatic 110) 3 = true ∧ fdq cX1_walk 36 (.istore 6) 2 = true ∧ fdq cX1_walk 38 (.aload 5) 2 = true ∧ fdq cX1_walk 40 (.iload_n 2) 1 = true ∧ fdq cX1_walk 41 (.iload 6) 2 = true ∧ fdq cX1_walk 43 (.iload 4) 2 = true ∧ fdq cX1_walk 45 (.iconst 1) 1 = true ∧ fdq cX1_walk 46 (.invokestatic 75) 3 = true ∧ fdq cX1_walk 49 (.areturn) 1 = true ∧ fdq cX1_sum 0 (.aload_n 0) 1 = true ∧ fdq cX1_sum 1 (.iload_n 1) 1 = true ∧ fdq cX1_sum 2 (.invokevirtual 65) 3 = true ∧ fdq cX1_sum 5 (.astore_n 2) 1 = true ∧ fdq cX1_sum 6 (.iconst 0) 1 = true ∧ fdq cX1_sum 7 (.istore_n 3) 1 = true := by decide +kernel
theorem dX1_walk_30 : decode cX1_walk 30 = .ok (.invokestatic 106, 3) := fdf dAb_27.1
theorem dX1_walk_33 : decode cX1_walk 33 = .ok (.invokestatic 110, 3) := fdf dAb_27.2.1
theorem dX1_walk_36 : decode cX1_walk 36 = .ok (.istore 6, 2) := fdf dAb_27.2.2.1
theorem dX1_walk_38 : decode cX1_walk 38 = .ok (.aload 5, 2) := fdf dAb_27.2.2.2.1
theorem dX1_walk_40 : decode cX1_walk 40 = .ok (.iload_n 2, 1) := fdf dAb_27.2.2.2.2.1
theorem dX1_walk_41 : decode cX1_walk 41 = .ok (.iload 6, 2) := fdf dAb_27.2.2.2.2.2.1
theorem dX1_walk_43 : decode cX1_walk 43 = .ok (.iload 4, 2) := fdf dAb_27.2.2.2.2.2.2.1
theorem dX1_walk_45 : decode cX1_walk 45 = .ok (.iconst 1, 1) := fdf dAb_27.2.2.2.2.2.2.2.1
theorem dX1_walk_46 : decode cX1_walk 46 = .ok (.invokestatic 75, 3) := fdf dAb_27.2.2.2.2.2.2.2.2.1
theorem dX1_walk_49 : decode cX1_walk 49 = .ok (.areturn, 1) := fdf dAb_27.2.2.2.2.2.2.2.2.2.1
theorem dX1_sum_0 : decode cX1_sum 0 = .ok (.aload_n 0, 1) := fdf dAb_27.2.2.2.2.2.2.2.2.2.2.1
theorem dX1_sum_1 : decode cX1_sum 1 = .ok (.iload_n 1, 1) := fdf dAb_27.2.2.2.2.2.2.2.2.2.2.2.1
theorem dX1_sum_2 : decode cX1_sum 2 = .ok (.invokevirtual 65, 3) := fdf dAb_27.2.2.2.2.2.2.2.2.2.2.2.2.1
theorem dX1_sum_5 : decode cX1_sum 5 = .ok (.astore_n 2, 1) := fdf dAb_27.2.2.2.2.2.2.2.2.2.2.2.2.2.1
theorem dX1_sum_6 : decode cX1_sum 6 = .ok (.iconst 0, 1) := fdf dAb_27.2.2.2.2.2.2.2.2.2.2.2.2.2.2.1
theorem dX1_sum_7 : decode cX1_sum 7 = .ok (.istore_n 3, 1) := fdf dAb_27.2.2.2.2.2.2.2.2.2.2.2.2.2.2.2
theorem dAb_28 : fdq cX1_sum 8 (.iconst 0) 1 = true ∧ fdq cX1_sum 9 (.istore 4) 2 = true ∧ fdq cX1_sum 11 (.iload 4) 2 = true ∧ fdq cX1_sum 13 (.aload_n 2) 1 = true ∧ fdq cX1_sum 14 (.getfield 68) 3 = true ∧ fdq cX1_sum 17 (.if_icmp .ge 21) 3 = true ∧ fdq cX1_sum 20 (.iload_n 3) 1 = true ∧ fdq cX1_sum 21 (.aload_n 2) 1 = true ∧ fdq cX1_sum 22 (.iload 4) 2 = true ∧ fdq cX1_sum 24 (.invokevirtual 59) 3 = true ∧ fdq cX1_sum 27 (.invokestatic 115) 3 = true ∧ fdq cX1_sum 30 (.iadd) 1 = true ∧ fdq cX1_sum 31 (.istore_n 3) 1 = true ∧ fdq cX1_sum 32 (.iinc 4 1) 3 = true ∧ fdq cX1_sum 35 (.goto (-24)) 3 = true ∧ fdq cX1_sum 38 (.iload_n 3) 1 = true := by decide +kernel
theorem dX1_sum_8 : decode cX1_sum 8 = .ok (.iconst 0, 1) := fdf dAb_28.1
theorem dX1_sum_9 : decode cX1_sum 9 = .ok (.istore 4, 2) := fdf dAb_28.2.1
theorem dX1_sum_11 : decode cX1_sum 11 = .ok (.iload 4, 2) := fdf dAb_28.2.2.1
theorem dX1_sum_13 : decode cX1_sum 13 = .ok (.aload_n 2, 1) := fdf dAb_28.2.2.2.1
theorem dX1_sum_14 : decode cX1_sum 14 = .ok (.getfield 68, 3) := fdf dAb_28.2.2.2.2.1
theorem dX1_sum_17 : decode cX1_sum 17 = .ok (.if_icmp .ge 21, 3) := fdf dAb_28.2.2.2.2.2.1
theorem dX1_sum_20 : decode cX1_sum 20 = .ok (.iload_n 3, 1) := fdf dAb_28.2.2.2.2.2.2.1
theorem dX1_sum_21 : decode cX1_sum 21 = .ok (.aload_n 2, 1) := fdf dAb_28.2.2.2.2.2.2.2.1
theorem dX1_sum_22 : decode cX1_sum 22 = .ok (.iload 4, 2) := fdf dAb_28.2.2.2.2.2.2.2.2.1
theorem dX1_sum_24 : decode cX1_sum 24 = .ok (.invokevirtual 59, 3) := fdf dAb_28.2.2.2.2.2.2.2.2.2.1
theorem dX1_sum_27 : decode cX1_sum 27 = .ok (.invokestatic 115, 3) := fdf dAb_28.2.2.2.2.2.2.2.2.2.2.1
theorem dX1_sum_30 : decode cX1_sum 30 = .ok (.iadd, 1) := fdf dAb_28.2.2.2.2.2.2.2.2.2.2.2.1
theorem dX1_sum_31 : decode cX1_sum 31 = .ok (.istore_n 3, 1) := fdf dAb_28.2.2.2.2.2.2.2.2.2.2.2.2.1
theorem dX1_sum_32 : decode cX1_sum 32 = .ok (.iinc 4 1, 3) := fdf dAb_28.2.2.2.2.2.2.2.2.2.2.2.2.2.1
theorem dX1_sum_35 : decode cX1_sum 35 = .ok (.goto (-24), 3) := fdf dAb_28.2.2.2.2.2.2.2.2.2.2.2.2.2.2.1
theorem dX1_sum_38 : decode cX1_sum 38 = .ok (.iload_n 3, 1) := fdf dAb_28.2.2.2.2.2.2.2.2.2.2.2.2.2.2.2
theorem dAb_29 : fdq cX1_sum 39 (.ireturn) 1 = true ∧ fdq cX1_walkSet 0 (.aload_n 0) 1 = true ∧ fdq cX1_walkSet 1 (.iload_n 1) 1 = true ∧ fdq cX1_walkSet 2 (.invokevirtual 65) 3 = true ∧ fdq cX1_walkSet 5 (.astore 6) 2 = true ∧ fdq cX1_walkSet 7 (.iload_n 2) 1 = true ∧ fdq cX1_walkSet 8 (.iconst 0) 1 = true ∧ fdq cX1_walkSet 9 (.aload 6) 2 = true ∧ fdq cX1_walkSet 11 (.getfield 68) 3 = true ∧ fdq cX1_walkSet 14 (.invokestatic 33) 3 = true ∧ fdq cX1_walkSet 17 (.iload_n 3) 1 = true ∧ fdq cX1_walkSet 18 (.iload 4) 2 = true ∧ fdq cX1_walkSet 20 (.invokestatic 118) 3 = true ∧ fdq cX1_walkSet 23 (.aload 6) 2 = true ∧ fdq cX1_walkSet 25 (.iload_n 2) 1 = true ∧ fdq cX1_walkSet 26 (.iload_n 3) 1 = true := by decide +kernel
theorem dX1_sum_39 : decode cX1_sum 39 = .ok (.ireturn, 1) := fdf dAb_29.1
theorem dX1_walkSet_0 : decode cX1_walkSet 0 = .ok (.aload_n 0, 1) := fdf dAb_29.2.1
theorem dX1_walkSet_1 : decode cX1_walkSet 1 = .ok (.iload_n 1, 1) := fdf dAb_29.2.2.1
theorem dX1_walkSet_2 : decode cX1_walkSet 2 = .ok (.invokevirtual 65, 3) := fdf dAb_29.2.2.2.1
theorem dX1_walkSet_5 : decode cX1_walkSet 5 = .ok (.astore 6, 2) := fdf dAb_29.2.2.2.2.1
theorem dX1_walkSet_7 : decode cX1_walkSet 7 = .ok (.iload_n 2, 1) := fdf dAb_29.2.2.2.2.2.1
theorem dX1_walkSet_8 : decode cX1_walkSet 8 = .ok (.iconst 0, 1) := fdf dAb_29.2.2.2.2.2.2.1
theorem dX1_walkSet_9 : decode cX1_walkSet 9 = .ok (.aload 6, 2) := fdf dAb_29.2.2.2.2.2.2.2.1
theorem dX1_walkSet_11 : decode cX1_walkSet 11 = .ok (.getfield 68, 3) := fdf dAb_29.2.2.2.2.2.2.2.2.1
theorem dX1_walkSet_14 : decode cX1_walkSet 14 = .ok (.invokestatic 33, 3) := fdf dAb_29.2.2.2.2.2.2.2.2.2.1
theorem dX1_walkSet_17 : decode cX1_walkSet 17 = .ok (.iload_n 3, 1) := fdf dAb_29.2.2.2.2.2.2.2.2.2.2.1
theorem dX1_walkSet_18 : decode cX1_walkSet 18 = .ok (.iload 4, 2) := fdf dAb_29.2.2.2.2.2.2.2.2.2.2.2.1
theorem dX1_walkSet_20 : decode cX1_walkSet 20 = .ok (.invokestatic 118, 3) := fdf dAb_29.2.2.2.2.2.2.2.2.2.2.2.2.1
theorem dX1_walkSet_23 : decode cX1_walkSet 23 = .ok (.aload 6, 2) := fdf dAb_29.2.2.2.2.2.2.2.2.2.2.2.2.2.1
theorem dX1_walkSet_25 : decode cX1_walkSet 25 = .ok (.iload_n 2, 1) := fdf dAb_29.2.2.2.2.2.2.2.2.2.2.2.2.2.2.1
theorem dX1_walkSet_26 : decode cX1_walkSet 26 = .ok (.iload_n 3, 1) := fdf dAb_29.2.2.2.2.2.2.2.2.2.2.2.2.2.2.2
theorem dAb_30 : fdq cX1_walkSet 27 (.iload 4) 2 = true ∧ fdq cX1_walkSet 29 (.iload 5) 2 = true ∧ fdq cX1_walkSet 31 (.invokestatic 122) 3 = true ∧ fdq cX1_walkSet 34 (.ireturn) 1 = true ∧ fdq cX1_replaceAll 0 (.aload_n 0) 1 = true ∧ fdq cX1_replaceAll 1 (.iload_n 1) 1 = true ∧ fdq cX1_replaceAll 2 (.invokevirtual 65) 3 = true ∧ fdq cX1_replaceAll 5 (.astore 4) 2 = true ∧ fdq cX1_replaceAll 7 (.iload_n 2) 1 = true ∧ fdq cX1_replaceAll 8 (.iload_n 3) 1 = true ∧ fdq cX1_replaceAll 9 (.invokestatic 118) 3 = true ∧ fdq cX1_replaceAll 12 (.aload 4) 2 = true ∧ fdq cX1_replaceAll 14 (.iconst 0) 1 = true ∧ fdq cX1_replaceAll 15 (.iload_n 2) 1 = true ∧ fdq cX1_replaceAll 16 (.iload_n 3) 1 = true ∧ fdq cX1_replaceAll 17 (.iconst 0) 1 = true := by decide +kernel
theorem dX1_walkSet_27 : decode cX1_walkSet 27 = .ok (.iload 4, 2) := fdf dAb_30.1
theorem dX1_walkSet_29 : decode cX1_walkSet 29 = .ok (.iload 5, 2) := fdf dAb_30.2.1
theorem dX1_walkSet_31 : decode cX1_walkSet 31 = .ok (.invokestatic 122, 3) := fdf dAb_30.2.2.1
theorem dX1_walkSet_34 : decode cX1_walkSet 34 = .ok (.ireturn, 1) := fdf dAb_30.2.2.2.1
theorem dX1_replaceAll_0 : decode cX1_replaceAll 0 = .ok (.aload_n 0, 1) := fdf dAb_30.2.2.2.2.1
theorem dX1_replaceAll_1 : decode cX1_replaceAll 1 = .ok (.iload_n 1, 1) := fdf dAb_30.2.2.2.2.2.1
theorem dX1_replaceAll_2 : decode cX1_replaceAll 2 = .ok (.invokevirtual 65, 3) := fdf dAb_30.2.2.2.2.2.2.1
theorem dX1_replaceAll_5 : decode cX1_replaceAll 5 = .ok (.astore 4, 2) := fdf dAb_30.2.2.2.2.2.2.2.1
theorem dX1_replaceAll_7 : decode cX1_replaceAll 7 = .ok (.iload_n 2, 1) := fdf dAb_30.2.2.2.2.2.2.2.2.1
theorem dX1_replaceAll_8 : decode cX1_replaceAll 8 = .ok (.iload_n 3, 1) := fdf dAb_30.2.2.2.2.2.2.2.2.2.1
theorem dX1_replaceAll_9 : decode cX1_replaceAll 9 = .ok (.invokestatic 118, 3) := fdf dAb_30.2.2.2.2.2.2.2.2.2.2.1
theorem dX1_replaceAll_12 : decode cX1_replaceAll 12 = .ok (.aload 4, 2) := fdf dAb_30.2.2.2.2.2.2.2.2.2.2.2.1
theorem dX1_replaceAll_14 : decode cX1_replaceAll 14 = .ok (.iconst 0, 1) := fdf dAb_30.2.2.2.2.2.2.2.2.2.2.2.2.1
theorem dX1_replaceAll_15 : decode cX1_replaceAll 15 = .ok (.iload_n 2, 1) := fdf dAb_30.2.2.2.2.2.2.2.2.2.2.2.2.2.1
theorem dX1_replaceAll_16 : decode cX1_replaceAll 16 = .ok (.iload_n 3, 1) := fdf dAb_30.2.2.2.2.2.2.2.2.2.2.2.2.2.2.1
theorem dX1_replaceAll_17 : decode cX1_replaceAll 17 = .ok (.iconst 0, 1) := fdf dAb_30.2.2.2.2.2.2.2.2.2.2.2.2.2.2.2
theorem dAb_31 : fdq cX1_replaceAll 18 (.invokestatic 122) 3 = true ∧ fdq cX1_replaceAll 21 (.ireturn) 1 = true ∧ fdq cX1_replaceOld 0 (.aload_n 0) 1 = true ∧ fdq cX1_replaceOld 1 (.iload_n 1) 1 = true ∧ fdq cX1_replaceOld 2 (.invokevirtual 65) 3 = true ∧ fdq cX1_replaceOld 5 (.astore 4) 2 = true ∧ fdq cX1_replaceOld 7 (.iload_n 2) 1 = true ∧ fdq cX1_replaceOld 8 (.invokestatic 51) 3 = true ∧ fdq cX1_replaceOld 11 (.iload_n 3) 1 = true ∧ fdq cX1_replaceOld 12 (.invokestatic 51) 3 = true ∧ fdq cX1_replaceOld 15 (.iconst 0) 1 = true ∧ fdq cX1_replaceOld 16 (.istore 5) 2 = true ∧ fdq cX1_replaceOld 18 (.iconst 0) 1 = true ∧ fdq cX1_replaceOld 19 (.istore 6) 2 = true ∧ fdq cX1_replaceOld 21 (.iload 6) 2 = true ∧ fdq cX1_replaceOld 23 (.aload 4) 2 = true := by decide +kernel
theorem dX1_replaceAll_18 : decode cX1_replaceAll 18 = .ok (.invokestatic 122, 3) := fdf dAb_31.1
theorem dX1_replaceAll_21 : decode cX1_replaceAll 21 = .ok (.ireturn, 1) := fdf dAb_31.2.1
theorem dX1_replaceOld_0 : decode cX1_replaceOld 0 = .ok (.aload_n 0, 1) := fdf dAb_31.2.2.1
theorem dX1_replaceOld_1 : decode cX1_replaceOld 1 = .ok (.iload_n 1, 1) := fdf dAb_31.2.2.2.1
theorem dX1_replaceOld_2 : decode cX1_replaceOld 2 = .ok (.invokevirtual 65, 3) := fdf dAb_31.2.2.2.2.1
theorem dX1_replaceOld_5 : decode cX1_replaceOld 5 = .ok (.astore 4, 2) := fdf dAb_31.2.2.2.2.2.1
theorem dX1_replaceOld_7 : decode cX1_replaceOld 7 = .ok (.iload_n 2, 1) := fdf dAb_31.2.2.2.2.2.2.1
theorem dX1_replaceOld_8 : decode cX1_replaceOld 8 = .ok (.invokestatic 51, 3) := fdf dAb_31.2.2.2.2.2.2.2.1
theorem dX1_replaceOld_11 : decode cX1_replaceOld 11 = .ok (.iload_n 3, 1) := fdf dAb_31.2.2.2.2.2.2.2.2.1
theorem dX1_replaceOld_12 : decode cX1_replaceOld 12 = .ok (.invokestatic 51, 3) := fdf dAb_31.2.2.2.2.2.2.2.2.2.1
theorem dX1_replaceOld_15 : decode cX1_replaceOld 15 = .ok (.iconst 0, 1) := fdf dAb_31.2.2.2.2.2.2.2.2.2.2.1
theorem dX1_replaceOld_16 : decode cX1_replaceOld 16 = .ok (.istore 5, 2) := fdf dAb_31.2.2.2.2.2.2.2.2.2.2.2.1
theorem dX1_replaceOld_18 : decode cX1_replaceOld 18 = .ok (.iconst 0, 1) := fdf dAb_31.2.2.2.2.2.2.2.2.2.2.2.2.1
theorem dX1_replaceOld_19 : decode cX1_replaceOld 19 = .ok (.istore 6, 2) := fdf dAb_31.2.2.2.2.2.2.2.2.2.2.2.2.2.1
theorem dX1_replaceOld_21 : decode cX1_replaceOld 21 = .ok (.iload 6, 2) := fdf dAb_31.2.2.2.2.2.2.2.2.2.2.2.2.2.2.1
theorem dX1_replaceOld_23 : decode cX1_replaceOld 23 = .ok (.aload 4, 2) := fdf dAb_31.2.2.2.2.2.2.2.2.2.2.2.2.2.2.2
theorem dAb_32 : fdq cX1_replaceOld 25 (.getfield 68) 3 = true ∧ fdq cX1_replaceOld 28 (.if_icmp .ge 32) 3 = true ∧ fdq cX1_replaceOld 31 (.aload 4) 2 = true ∧ fdq cX1_replaceOld 33 (.iload 6) 2 = true ∧ fdq cX1_replaceOld 35 (.invokevirtual 59) 3 = true ∧ fdq cX1_replaceOld 38 (.iload_n 2) 1 = true ∧ fdq cX1_replaceOld 39 (.if_icmp .ne 15) 3 = true ∧ fdq cX1_replaceOld 42 (.aload 4) 2 = true ∧ fdq cX1_replaceOld 44 (.iload 6) 2 = true ∧ fdq cX1_replaceOld 46 (.iload_n 3) 1 = true ∧ fdq cX1_replaceOld 47 (.invokevirtual 55) 3 = true ∧ fdq cX1_replaceOld 50 (.pop) 1 = true ∧ fdq cX1_replaceOld 51 (.iconst 1) 1 = true ∧ fdq cX1_replaceOld 52 (.istore 5) 2 = true ∧ fdq cX1_replaceOld 54 (.iinc 6 1) 3 = true ∧ fdq cX1_replaceOld 57 (.goto (-36)) 3 = true := by decide +kernel
theorem dX1_replaceOld_25 : decode cX1_replaceOld 25 = .ok (.getfield 68, 3) := fdf dAb_32.1
theorem dX1_replaceOld_28 : decode cX1_replaceOld 28 = .ok (.if_icmp .ge 32, 3) := fdf dAb_32.2.1
theorem dX1_replaceOld_31 : decode cX1_replaceOld 31 = .ok (.aload 4, 2) := fdf dAb_32.2.2.1
theorem dX1_replaceOld_33 : decode cX1_replaceOld 33 = .ok (.iload 6, 2) := fdf dAb_32.2.2.2.1
theorem dX1_replaceOld_35 : decode cX1_replaceOld 35 = .ok (.invokevirtual 59, 3) := fdf dAb_32.2.2.2.2.1
theorem dX1_replaceOld_38 : decode cX1_replaceOld 38 = .ok (.iload_n 2, 1) := fdf dAb_32.2.2.2.2.2.1
theorem dX1_replaceOld_39 : decode cX1_replaceOld 39 = .ok (.if_icmp .ne 15, 3) := fdf dAb_32.2.2.2.2.2.2.1
theorem dX1_replaceOld_42 : decode cX1_replaceOld 42 = .ok (.aload 4, 2) := fdf dAb_32.2.2.2.2.2.2.2.1
theorem dX1_replaceOld_44 : decode cX1_replaceOld 44 = .ok (.iload 6, 2) := fdf dAb_32.2.2.2.2.2.2.2.2.1
theorem dX1_replaceOld_46 : decode cX1_replaceOld 46 = .ok (.iload_n 3, 1) := fdf dAb_32.2.2.2.2.2.2.2.2.2.1
theorem dX1_replaceOld_47 : decode cX1_replaceOld 47 = .ok (.invokevirtual 55, 3) := fdf dAb_32.2.2.2.2.2.2.2.2.2.2.1
theorem dX1_replaceOld_50 : decode cX1_replaceOld 50 = .ok (.pop, 1) := fdf dAb_32.2.2.2.2.2.2.2.2.2.2.2.1
theorem dX1_replaceOld_51 : decode cX1_replaceOld 51 = .ok (.iconst 1, 1) := fdf dAb_32.2.2.2.2.2.2.2.2.2.2.2.2.1
theorem dX1_replaceOld_52 : decode cX1_replaceOld 52 = .ok (.istore 5, 2) := fdf dAb_32.2.2.2.2.2.2.2.2.2.2.2.2.2.1
theorem dX1_replaceOld_54 : decode cX1_replaceOld 54 = .ok (.iinc 6 1, 3) := fdf dAb_32.2.2.2.2.2.2.2.2.2.2.2.2.2.2.1
theorem dX1_replaceOld_57 : decode cX1_replaceOld 57 = .ok (.goto (-36), 3) := fdf dAb_32.2.2.2.2.2.2.2.2.2.2.2.2.2.2.2
theorem dAb_33 : fdq cX1_replaceOld 60 (.iload 5) 2 = true ∧ fdq cX1_replaceOld 62 (.ireturn) 1 = true ∧ fdq cX1_fill 0 (.aload_n 0) 1 = true ∧ fdq cX1_fill 1 (.iload_n 1) 1 = true ∧ fdq cX1_fill 2 (.invokevirtual 65) 3 = true ∧ fdq cX1_fill 5 (.astore_n 3) 1 = true ∧ fdq cX1_fill 6 (.iload_n 2) 1 = true ∧ fdq cX1_fill 7 (.invokestatic 51) 3 = true ∧ fdq cX1_fill 10 (.aload_n 3) 1 = true ∧ fdq cX1_fill 11 (.iload_n 2) 1 = true ∧ fdq cX1_fill 12 (.invokestatic 40) 3 = true ∧ fdq cX1_fill 15 (.aload_n 3) 1 = true ∧ fdq cX1_fill 16 (.getfield 68) 3 = true ∧ fdq cX1_fill 19 (.ireturn) 1 = true ∧ fdq cX1_sort 0 (.aload_n 0) 1 = true ∧ fdq cX1_sort 1 (.iload_n 1) 1 = true := by decide +kernel
theorem dX1_replaceOld_60 : decode cX1_replaceOld 60 = .ok (.iload 5, 2) := fdf dAb_33.1
theorem dX1_replaceOld_62 : decode cX1_replaceOld 62 = .ok (.ireturn, 1) := fdf dAb_33.2.1
theorem dX1_fill_0 : decode cX1_fill 0 = .ok (.aload_n 0, 1) := fdf dAb_33.2.2.1
theorem dX1_fill_1 : decode cX1_fill 1 = .ok (.iload_n 1, 1) := fdf dAb_33.2.2.2.1
theorem dX1_fill_2 : decode cX1_fill 2 = .ok (.invokevirtual 65, 3) := fdf dAb_33.2.2.2.2.1
theorem dX1_fill_5 : decode cX1_fill 5 = .ok (.astore_n 3, 1) := fdf dAb_33.2.2.2.2.2.1
theorem dX1_fill_6 : decode cX1_fill 6 = .ok (.iload_n 2, 1) := fdf dAb_33.2.2.2.2.2.2.1
theorem dX1_fill_7 : decode cX1_fill 7 = .ok (.invokestatic 51, 3) := fdf dAb_33.2.2.2.2.2.2.2.1
theorem dX1_fill_10 : decode cX1_fill 10 = .ok (.aload_n 3, 1) := fdf dAb_33.2.2.2.2.2.2.2.2.1
theorem dX1_fill_11 : decode cX1_fill 11 = .ok (.iload_n 2, 1) := fdf dAb_33.2.2.2.2.2.2.2.2.2.1
theorem dX1_fill_12 : decode cX1_fill 12 = .ok (.invokestatic 40, 3) := fdf dAb_33.2.2.2.2.2.2.2.2.2.2.1
theorem dX1_fill_15 : decode cX1_fill 15 = .ok (.aload_n 3, 1) := fdf dAb_33.2.2.2.2.2.2.2.2.2.2.2.1
theorem dX1_fill_16 : decode cX1_fill 16 = .ok (.getfield 68, 3) := fdf dAb_33.2.2.2.2.2.2.2.2.2.2.2.2.1
theorem dX1_fill_19 : decode cX1_fill 19 = .ok (.ireturn, 1) := fdf dAb_33.2.2.2.2.2.2.2.2.2.2.2.2.2.1
theorem dX1_sort_0 : decode cX1_sort 0 = .ok (.aload_n 0, 1) := fdf dAb_33.2.2.2.2.2.2.2.2.2.2.2.2.2.2.1
theorem dX1_sort_1 : decode cX1_sort 1 = .ok (.iload_n 1, 1) := fdf dAb_33.2.2.2.2.2.2.2.2.2.2.2.2.2.2.2
theorem dAb_34 : fdq cX1_sort 2 (.invokevirtual 29) 3 = true ∧ fdq cX1_sort 5 (.astore_n 3) 1 = true ∧ fdq cX1_sort 6 (.iconst 1) 1 = true ∧ fdq cX1_sort 7 (.istore 4) 2 = true ∧ fdq cX1_sort 9 (.iload 4) 2 = true ∧ fdq cX1_sort 11 (.aload_n 3) 1 = true ∧ fdq cX1_sort 12 (.getfield 68) 3 = true ∧ fdq cX1_sort 15 (.if_icmp .ge 16) 3 = true ∧ fdq cX1_sort 18 (.aload_n 3) 1 = true ∧ fdq cX1_sort 19 (.iload 4) 2 = true ∧ fdq cX1_sort 21 (.iload_n 2) 1 = true ∧ fdq cX1_sort 22 (.invokestatic 126) 3 = true ∧ fdq cX1_sort 25 (.iinc 4 1) 3 = true ∧ fdq cX1_sort 28 (.goto (-19)) 3 = true ∧ fdq cX1_sort 31 (.aload_n 3) 1 = true ∧ fdq cX1_sort 32 (.getfield 68) 3 = true := by decide +kernel
theorem dX1_sort_2 : decode cX1_sort 2 = .ok (.invokevirtual 29, 3) := fdf dAb_34.1
theorem dX1_sort_5 : decode cX1_sort 5 = .ok (.astore_n 3, 1) := fdf dAb_34.2.1
theorem dX1_sort_6 : decode cX1_sort 6 = .ok (.iconst 1, 1) := fdf dAb_34.2.2.1
theorem dX1_sort_7 : decode cX1_sort 7 = .ok (.istore 4, 2) := fdf dAb_34.2.2.2.1
theorem dX1_sort_9 : decode cX1_sort 9 = .ok (.iload 4, 2) := fdf dAb_34.2.2.2.2.1
theorem dX1_sort_11 : decode cX1_sort 11 = .ok (.aload_n 3, 1) := fdf dAb_34.2.2.2.2.2.1
theorem dX1_sort_12 : decode cX1_sort 12 = .ok (.getfield 68, 3) := fdf dAb_34.2.2.2.2.2.2.1
theorem dX1_sort_15 : decode cX1_sort 15 = .ok (.if_icmp .ge 16, 3) := fdf dAb_34.2.2.2.2.2.2.2.1
theorem dX1_sort_18 : decode cX1_sort 18 = .ok (.aload_n 3, 1) := fdf dAb_34.2.2.2.2.2.2.2.2.1
theorem dX1_sort_19 : decode cX1_sort 19 = .ok (.iload 4, 2) := fdf dAb_34.2.2.2.2.2.2.2.2.2.1
theorem dX1_sort_21 : decode cX1_sort 21 = .ok (.iload_n 2, 1) := fdf dAb_34.2.2.2.2.2.2.2.2.2.2.1
theorem dX1_sort_22 : decode cX1_sort 22 = .ok (.invokestatic 126, 3) := fdf dAb_34.2.2.2.2.2.2.2.2.2.2.2.1
theorem dX1_sort_25 : decode cX1_sort 25 = .ok (.iinc 4 1, 3) := fdf dAb_34.2.2.2.2.2.2.2.2.2.2.2.2.1
theorem dX1_sort_28 : decode cX1_sort 28 = .ok (.goto (-19), 3) := fdf dAb_34.2.2.2.2.2.2.2.2.2.2.2.2.2.1
theorem dX1_sort_31 : decode cX1_sort 31 = .ok (.aload_n 3, 1) := fdf dAb_34.2.2.2.2.2.2.2.2.2.2.2.2.2.2.1
theorem dX1_sort_32 : decode cX1_sort 32 = .ok (.getfield 68, 3) := fdf dAb_34.2.2.2.2.2.2.2.2.2.2.2.2.2.2.2
theorem dAb_35 : fdq cX1_sort 35 (.ireturn) 1 = true ∧ fdq cX1_reverse 0 (.aload_n 0) 1 = true ∧ fdq cX1_reverse 1 (.iload_n 1) 1 = true ∧ fdq cX1_reverse 2 (.invokevirtual 65) 3 = true ∧ fdq cX1_reverse 5 (.astore_n 2) 1 = true ∧ fdq cX1_reverse 6 (.aload_n 2) 1 = true ∧ fdq cX1_reverse 7 (.iconst 0) 1 = true ∧ fdq cX1_reverse 8 (.aload_n 2) 1 = true ∧ fdq cX1_reverse 9 (.getfield 68) 3 = true ∧ fdq cX1_reverse 12 (.invokestatic 130) 3 = true ∧ fdq cX1_reverse 15 (.aload_n 2) 1 = true ∧ fdq cX1_reverse 16 (.getfield 68) 3 = true ∧ fdq cX1_reverse 19 (.ireturn) 1 = true ∧ fdq cX1_rotate 0 (.aload_n 0) 1 = true ∧ fdq cX1_rotate 1 (.iload_n 1) 1 = true ∧ fdq cX1_rotate 2 (.invokevirtual 65) 3 = true := by decide +kernel
theorem dX1_sort_35 : decode cX1_sort 35 = .ok (.ireturn, 1) := fdf dAb_35.1
theorem dX1_reverse_0 : decode cX1_reverse 0 = .ok (.aload_n 0, 1) := fdf dAb_35.2.1
theorem dX1_reverse_1 : decode cX1_reverse 1 = .ok (.iload_n 1, 1) := fdf dAb_35.2.2.1
theorem dX1_reverse_2 : decode cX1_reverse 2 = .ok (.invokevirtual 65, 3) := fdf dAb_35.2.2.2.1
theorem dX1_reverse_5 : decode cX1_reverse 5 = .ok (.astore_n 2, 1) := fdf dAb_35.2.2.2.2.1
theorem dX1_reverse_6 : decode cX1_reverse 6 = .ok (.aload_n 2, 1) := fdf dAb_35.2.2.2.2.2.1
theorem dX1_reverse_7 : decode cX1_reverse 7 = .ok (.iconst 0, 1) := fdf dAb_35.2.2.2.2.2.2.1
theorem dX1_reverse_8 : decode cX1_reverse 8 = .ok (.aload_n 2, 1) := fdf dAb_35.2.2.2.2.2.2.2.1
theorem dX1_reverse_9 : decode cX1_reverse 9 = .ok (.getfield 68, 3) := fdf dAb_35.2.2.2.2.2.2.2.2.1
theorem dX1_reverse_12 : decode cX1_reverse 12 = .ok (.invokestatic 130, 3) := fdf dAb_35.2.2.2.2.2.2.2.2.2.1
theorem dX1_reverse_15 : decode cX1_reverse 15 = .ok (.aload_n 2, 1) := fdf dAb_35.2.2.2.2.2.2.2.2.2.2.1
theorem dX1_reverse_16 : decode cX1_reverse 16 = .ok (.getfield 68, 3) := fdf dAb_35.2.2.2.2.2.2.2.2.2.2.2.1
theorem dX1_reverse_19 : decode cX1_reverse 19 = .ok (.ireturn, 1) := fdf dAb_35.2.2.2.2.2.2.2.2.2.2.2.2.1
theorem dX1_rotate_0 : decode cX1_rotate 0 = .ok (.aload_n 0, 1) := fdf dAb_35.2.2.2.2.2.2.2.2.2.2.2.2.2.1
theorem dX1_rotate_1 : decode cX1_rotate 1 = .ok (.iload_n 1, 1) := fdf dAb_35.2.2.2.2.2.2.2.2.2.2.2.2.2.2.1
theorem dX1_rotate_2 : decode cX1_rotate 2 = .ok (.invokevirtual 65, 3) := fdf dAb_35.2.2.2.2.2.2.2.2.2.2.2.2.2.2.2
theorem dAb_36 : fdq cX1_rotate 5 (.astore_n 3) 1 = true ∧ fdq cX1_rotate 6 (.iload_n 2) 1 = true ∧ fdq cX1_rotate 7 (.bipush (-99)) 2 = true ∧ fdq cX1_rotate 9 (.bipush 99) 2 = true ∧ fdq cX1_rotate 11 (.invokestatic 33) 3 = true ∧ fdq cX1_rotate 14 (.aload_n 3) 1 = true ∧ fdq cX1_rotate 15 (.getfield 68) 3 = true ∧ fdq cX1_rotate 18 (.ifCond .le 39) 3 = true ∧ fdq cX1_rotate 21 (.iload_n 2) 1 = true ∧ fdq cX1_rotate 22 (.aload_n 3) 1 = true ∧ fdq cX1_rotate 23 (.getfield 68) 3 = true ∧ fdq cX1_rotate 26 (.invokestatic 134) 3 = true ∧ fdq cX1_rotate 29 (.istore 4) 2 = true ∧ fdq cX1_rotate 31 (.aload_n 3) 1 = true ∧ fdq cX1_rotate 32 (.iconst 0) 1 = true ∧ fdq cX1_rotate 33 (.aload_n 3) 1 = true := by decide +kernel
theorem dX1_rotate_5 : decode cX1_rotate 5 = .ok (.astore_n 3, 1) := fdf dAb_36.1
theorem dX1_rotate_6 : decode cX1_rotate 6 = .ok (.iload_n 2, 1) := fdf dAb_36.2.1
theorem dX1_rotate_7 : decode cX1_rotate 7 = .ok (.bipush (-99), 2) := fdf dAb_36.2.2.1
theorem dX1_rotate_9 : decode cX1_rotate 9 = .ok (.bipush 99, 2) := fdf dAb_36.2.2.2.1
theorem dX1_rotate_11 : decode cX1_rotate 11 = .ok (.invokestatic 33, 3) := fdf dAb_36.2.2.2.2.1
theorem dX1_rotate_14 : decode cX1_rotate 14 = .ok (.aload_n 3, 1) := fdf dAb_36.2.2.2.2.2.1
theorem dX1_rotate_15 : decode cX1_rotate 15 = .ok (.getfield 68, 3) := fdf dAb_36.2.2.2.2.2.2.1
theorem dX1_rotate_18 : decode cX1_rotate 18 = .ok (.ifCond .le 39, 3) := fdf dAb_36.2.2.2.2.2.2.2.1
theorem dX1_rotate_21 : decode cX1_rotate 21 = .ok (.iload_n 2, 1) := fdf dAb_36.2.2.2.2.2.2.2.2.1
theorem dX1_rotate_22 : decode cX1_rotate 22 = .ok (.aload_n 3, 1) := fdf dAb_36.2.2.2.2.2.2.2.2.2.1
theorem dX1_rotate_23 : decode cX1_rotate 23 = .ok (.getfield 68, 3) := fdf dAb_36.2.2.2.2.2.2.2.2.2.2.1
theorem dX1_rotate_26 : decode cX1_rotate 26 = .ok (.invokestatic 134, 3) := fdf dAb_36.2.2.2.2.2.2.2.2.2.2.2.1
theorem dX1_rotate_29 : decode cX1_rotate 29 = .ok (.istore 4, 2) := fdf dAb_36.2.2.2.2.2.2.2.2.2.2.2.2.1
theorem dX1_rotate_31 : decode cX1_rotate 31 = .ok (.aload_n 3, 1) := fdf dAb_36.2.2.2.2.2.2.2.2.2.2.2.2.2.1
theorem dX1_rotate_32 : decode cX1_rotate 32 = .ok (.iconst 0, 1) := fdf dAb_36.2.2.2.2.2.2.2.2.2.2.2.2.2.2.1
theorem dX1_rotate_33 : decode cX1_rotate 33 = .ok (.aload_n 3, 1) := fdf dAb_36.2.2.2.2.2.2.2.2.2.2.2.2.2.2.2
theorem dAb_37 : fdq cX1_rotate 34 (.getfield 68) 3 = true ∧ fdq cX1_rotate 37 (.invokestatic 130) 3 = true ∧ fdq cX1_rotate 40 (.aload_n 3) 1 = true ∧ fdq cX1_rotate 41 (.iconst 0) 1 = true ∧ fdq cX1_rotate 42 (.iload 4) 2 = true ∧ fdq cX1_rotate 44 (.invokestatic 130) 3 = true ∧ fdq cX1_rotate 47 (.aload_n 3) 1 = true ∧ fdq cX1_rotate 48 (.iload 4) 2 = true ∧ fdq cX1_rotate 50 (.aload_n 3) 1 = true ∧ fdq cX1_rotate 51 (.getfield 68) 3 = true ∧ fdq cX1_rotate 54 (.invokestatic 130) 3 = true ∧ fdq cX1_rotate 57 (.aload_n 3) 1 = true ∧ fdq cX1_rotate 58 (.getfield 68) 3 = true ∧ fdq cX1_rotate 61 (.ireturn) 1 = true ∧ fdq cX1_swap 0 (.aload_n 0) 1 = true ∧ fdq cX1_swap 1 (.iload_n 1) 1 = true := by decide +kernel
theorem dX1_rotate_34 : decode cX1_rotate 34 = .ok (.getfield 68, 3) := fdf dAb_37.1
theorem dX1_rotate_37 : decode cX1_rotate 37 = .ok (.invokestatic 130, 3) := fdf dAb_37.2.1
theorem dX1_rotate_40 : decode cX1_rotate 40 = .ok (.aload_n 3, 1) := fdf dAb_37.2.2.1
theorem dX1_rotate_41 : decode cX1_rotate 41 = .ok (.iconst 0, 1) := fdf dAb_37.2.2.2.1
theorem dX1_rotate_42 : decode cX1_rotate 42 = .ok (.iload 4, 2) := fdf dAb_37.2.2.2.2.1
theorem dX1_rotate_44 : decode cX1_rotate 44 = .ok (.invokestatic 130, 3) := fdf dAb_37.2.2.2.2.2.1
theorem dX1_rotate_47 : decode cX1_rotate 47 = .ok (.aload_n 3, 1) := fdf dAb_37.2.2.2.2.2.2.1
theorem dX1_rotate_48 : decode cX1_rotate 48 = .ok (.iload 4, 2) := fdf dAb_37.2.2.2.2.2.2.2.1
theorem dX1_rotate_50 : decode cX1_rotate 50 = .ok (.aload_n 3, 1) := fdf dAb_37.2.2.2.2.2.2.2.2.1
theorem dX1_rotate_51 : decode cX1_rotate 51 = .ok (.getfield 68, 3) := fdf dAb_37.2.2.2.2.2.2.2.2.2.1
theorem dX1_rotate_54 : decode cX1_rotate 54 = .ok (.invokestatic 130, 3) := fdf dAb_37.2.2.2.2.2.2.2.2.2.2.1
theorem dX1_rotate_57 : decode cX1_rotate 57 = .ok (.aload_n 3, 1) := fdf dAb_37.2.2.2.2.2.2.2.2.2.2.2.1
theorem dX1_rotate_58 : decode cX1_rotate 58 = .ok (.getfield 68, 3) := fdf dAb_37.2.2.2.2.2.2.2.2.2.2.2.2.1
theorem dX1_rotate_61 : decode cX1_rotate 61 = .ok (.ireturn, 1) := fdf dAb_37.2.2.2.2.2.2.2.2.2.2.2.2.2.1
theorem dX1_swap_0 : decode cX1_swap 0 = .ok (.aload_n 0, 1) := fdf dAb_37.2.2.2.2.2.2.2.2.2.2.2.2.2.2.1
theorem dX1_swap_1 : decode cX1_swap 1 = .ok (.iload_n 1, 1) := fdf dAb_37.2.2.2.2.2.2.2.2.2.2.2.2.2.2.2
theorem dAb_38 : fdq cX1_swap 2 (.invokevirtual 65) 3 = true ∧ fdq cX1_swap 5 (.astore 4) 2 = true ∧ fdq cX1_swap 7 (.aload 4) 2 = true ∧ fdq cX1_swap 9 (.iload_n 2) 1 = true ∧ fdq cX1_swap 10 (.invokestatic 48) 3 = true ∧ fdq cX1_swap 13 (.aload 4) 2 = true ∧ fdq cX1_swap 15 (.iload_n 3) 1 = true ∧ fdq cX1_swap 16 (.invokestatic 48) 3 = true ∧ fdq cX1_swap 19 (.aload 4) 2 = true ∧ fdq cX1_swap 21 (.iload_n 2) 1 = true ∧ fdq cX1_swap 22 (.invokevirtual 59) 3 = true ∧ fdq cX1_swap 25 (.aload 4) 2 = true ∧ fdq cX1_swap 27 (.iload_n 3) 1 = true ∧ fdq cX1_swap 28 (.invokevirtual 59) 3 = true ∧ fdq cX1_swap 31 (.if_icmp .ne 7) 3 = true ∧ fdq cX1_swap 34 (.iconst 0) 1 = true := by decide +kernel
theorem dX1_swap_2 : decode cX1_swap 2 = .ok (.invokevirtual 65, 3) := fdf dAb_38.1
theorem dX1_swap_5 : decode cX1_swap 5 = .ok (.astore 4, 2) := fdf dAb_38.2.1
theorem dX1_swap_7 : decode cX1_swap 7 = .ok (.aload 4, 2) := fdf dAb_38.2.2.1
theorem dX1_swap_9 : decode cX1_swap 9 = .ok (.iload_n 2, 1) := fdf dAb_38.2.2.2.1
theorem dX1_swap_10 : decode cX1_swap 10 = .ok (.invokestatic 48, 3) := fdf dAb_38.2.2.2.2.1
theorem dX1_swap_13 : decode cX1_swap 13 = .ok (.aload 4, 2) := fdf dAb_38.2.2.2.2.2.1
theorem dX1_swap_15 : decode cX1_swap 15 = .ok (.iload_n 3, 1) := fdf dAb_38.2.2.2.2.2.2.1
theorem dX1_swap_16 : decode cX1_swap 16 = .ok (.invokestatic 48, 3) := fdf dAb_38.2.2.2.2.2.2.2.1
theorem dX1_swap_19 : decode cX1_swap 19 = .ok (.aload 4, 2) := fdf dAb_38.2.2.2.2.2.2.2.2.1
theorem dX1_swap_21 : decode cX1_swap 21 = .ok (.iload_n 2, 1) := fdf dAb_38.2.2.2.2.2.2.2.2.2.1
theorem dX1_swap_22 : decode cX1_swap 22 = .ok (.invokevirtual 59, 3) := fdf dAb_38.2.2.2.2.2.2.2.2.2.2.1
theorem dX1_swap_25 : decode cX1_swap 25 = .ok (.aload 4, 2) := fdf dAb_38.2.2.2.2.2.2.2.2.2.2.2.1
theorem dX1_swap_27 : decode cX1_swap 27 = .ok (.iload_n 3, 1) := fdf dAb_38.2.2.2.2.2.2.2.2.2.2.2.2.1
theorem dX1_swap_28 : decode cX1_swap 28 = .ok (.invokevirtual 59, 3) := fdf dAb_38.2.2.2.2.2.2.2.2.2.2.2.2.2.1
theorem dX1_swap_31 : decode cX1_swap 31 = .ok (.if_icmp .ne 7, 3) := fdf dAb_38.2.2.2.2.2.2.2.2.2.2.2.2.2.2.1
theorem dX1_swap_34 : decode cX1_swap 34 = .ok (.iconst 0, 1) := fdf dAb_38.2.2.2.2.2.2.2.2.2.2.2.2.2.2.2
theorem dAb_39 : fdq cX1_swap 35 (.goto 4) 3 = true ∧ fdq cX1_swap 38 (.iconst 1) 1 = true ∧ fdq cX1_swap 39 (.istore 5) 2 = true ∧ fdq cX1_swap 41 (.aload 4) 2 = true ∧ fdq cX1_swap 43 (.iload_n 2) 1 = true ∧ fdq cX1_swap 44 (.iload_n 3) 1 = true ∧ fdq cX1_swap 45 (.invokevirtual 137) 3 = true ∧ fdq cX1_swap 48 (.iload 5) 2 = true ∧ fdq cX1_swap 50 (.ireturn) 1 = true ∧ fdq cX1_add 0 (.aload_n 0) 1 = true ∧ fdq cX1_add 1 (.iload_n 1) 1 = true ∧ fdq cX1_add 2 (.invokevirtual 65) 3 = true ∧ fdq cX1_add 5 (.pop) 1 = true ∧ fdq cX1_add 6 (.iload_n 2) 1 = true ∧ fdq cX1_add 7 (.invokestatic 51) 3 = true ∧ fdq cX1_add 10 (.aload_n 0) 1 = true := by decide +kernel
theorem dX1_swap_35 : decode cX1_swap 35 = .ok (.goto 4, 3) := fdf dAb_39.1
theorem dX1_swap_38 : decode cX1_swap 38 = .ok (.iconst 1, 1) := fdf dAb_39.2.1
theorem dX1_swap_39 : decode cX1_swap 39 = .ok (.istore 5, 2) := fdf dAb_39.2.2.1
theorem dX1_swap_41 : decode cX1_swap 41 = .ok (.aload 4, 2) := fdf dAb_39.2.2.2.1
theorem dX1_swap_43 : decode cX1_swap 43 = .ok (.iload_n 2, 1) := fdf dAb_39.2.2.2.2.1
theorem dX1_swap_44 : decode cX1_swap 44 = .ok (.iload_n 3, 1) := fdf dAb_39.2.2.2.2.2.1
theorem dX1_swap_45 : decode cX1_swap 45 = .ok (.invokevirtual 137, 3) := fdf dAb_39.2.2.2.2.2.2.1
theorem dX1_swap_48 : decode cX1_swap 48 = .ok (.iload 5, 2) := fdf dAb_39.2.2.2.2.2.2.2.1
theorem dX1_swap_50 : decode cX1_swap 50 = .ok (.ireturn, 1) := fdf dAb_39.2.2.2.2.2.2.2.2.1
theorem dX1_add_0 : decode cX1_add 0 = .ok (.aload_n 0, 1) := fdf dAb_39.2.2.2.2.2.2.2.2.2.1
theorem dX1_add_1 : decode cX1_add 1 = .ok (.iload_n 1, 1) := fdf dAb_39.2.2.2.2.2.2.2.2.2.2.1
theorem dX1_add_2 : decode cX1_add 2 = .ok (.invokevirtual 65, 3) := fdf dAb_39.2.2.2.2.2.2.2.2.2.2.2.1
theorem dX1_add_5 : decode cX1_add 5 = .ok (.pop, 1) := fdf dAb_39.2.2.2.2.2.2.2.2.2.2.2.2.1
theorem dX1_add_6 : decode cX1_add 6 = .ok (.iload_n 2, 1) := fdf dAb_39.2.2.2.2.2.2.2.2.2.2.2.2.2.1
theorem dX1_add_7 : decode cX1_add 7 = .ok (.invokestatic 51, 3) := fdf dAb_39.2.2.2.2.2.2.2.2.2.2.2.2.2.2.1
theorem dX1_add_10 : decode cX1_add 10 = .ok (.aload_n 0, 1) := fdf dAb_39.2.2.2.2.2.2.2.2.2.2.2.2.2.2.2
theorem dAb_40 : fdq cX1_add 11 (.iconst 1) 1 = true ∧ fdq cX1_add 12 (.invokevirtual 140) 3 = true ∧ fdq cX1_add 15 (.ireturn) 1 = true ∧ fdq cX1_addAt 0 (.aload_n 0) 1 = true ∧ fdq cX1_addAt 1 (.iload_n 1) 1 = true ∧ fdq cX1_addAt 2 (.invokevirtual 65) 3 = true ∧ fdq cX1_addAt 5 (.astore 4) 2 = true ∧ fdq cX1_addAt 7 (.iload_n 2) 1 = true ∧ fdq cX1_addAt 8 (.iconst 0) 1 = true ∧ fdq cX1_addAt 9 (.aload 4) 2 = true ∧ fdq cX1_addAt 11 (.getfield 68) 3 = true ∧ fdq cX1_addAt 14 (.invokestatic 33) 3 = true ∧ fdq cX1_addAt 17 (.iload_n 3) 1 = true ∧ fdq cX1_addAt 18 (.invokestatic 51) 3 = true ∧ fdq cX1_addAt 21 (.aload_n 0) 1 = true ∧ fdq cX1_addAt 22 (.iconst 1) 1 = true := by decide +kernel
theorem dX1_add_11 : decode cX1_add 11 = .ok (.iconst 1, 1) := fdf dAb_40.1
theorem dX1_add_12 : decode cX1_add 12 = .ok (.invokevirtual 140, 3) := fdf dAb_40.2.1
theorem dX1_add_15 : decode cX1_add 15 = .ok (.ireturn, 1) := fdf dAb_40.2.2.1
theorem dX1_addAt_0 : decode cX1_addAt 0 = .ok (.aload_n 0, 1) := fdf dAb_40.2.2.2.1
theorem dX1_addAt_1 : decode cX1_addAt 1 = .ok (.iload_n 1, 1) := fdf dAb_40.2.2.2.2.1
theorem dX1_addAt_2 : decode cX1_addAt 2 = .ok (.invokevirtual 65, 3) := fdf dAb_40.2.2.2.2.2.1
theorem dX1_addAt_5 : decode cX1_addAt 5 = .ok (.astore 4, 2) := fdf dAb_40.2.2.2.2.2.2.1
theorem dX1_addAt_7 : decode cX1_addAt 7 = .ok (.iload_n 2, 1) := fdf dAb_40.2.2.2.2.2.2.2.1
theorem dX1_addAt_8 : decode cX1_addAt 8 = .ok (.iconst 0, 1) := fdf dAb_40.2.2.2.2.2.2.2.2.1
theorem dX1_addAt_9 : decode cX1_addAt 9 = .ok (.aload 4, 2) := fdf dAb_40.2.2.2.2.2.2.2.2.2.1
theorem dX1_addAt_11 : decode cX1_addAt 11 = .ok (.getfield 68, 3) := fdf dAb_40.2.2.2.2.2.2.2.2.2.2.1
theorem dX1_addAt_14 : decode cX1_addAt 14 = .ok (.invokestatic 33, 3) := fdf dAb_40.2.2.2.2.2.2.2.2.2.2.2.1
theorem dX1_addAt_17 : decode cX1_addAt 17 = .ok (.iload_n 3, 1) := fdf dAb_40.2.2.2.2.2.2.2.2.2.2.2.2.1
theorem dX1_addAt_18 : decode cX1_addAt 18 = .ok (.invokestatic 51, 3) := fdf dAb_40.2.2.2.2.2.2.2.2.2.2.2.2.2.1
theorem dX1_addAt_21 : decode cX1_addAt 21 = .ok (.aload_n 0, 1) := fdf dAb_40.2.2.2.2.2.2.2.2.2.2.2.2.2.2.1
theorem dX1_addAt_22 : decode cX1_addAt 22 = .ok (.iconst 1, 1) := fdf dAb_40.2.2.2.2.2.2.2.2.2.2.2.2.2.2.2
theorem dAb_41 : fdq cX1_addAt 23 (.invokevirtual 140) 3 = true ∧ fdq cX1_addAt 26 (.ireturn) 1 = true ∧ fdq cX1_addAll 0 (.aload_n 0) 1 = true ∧ fdq cX1_addAll 1 (.iload_n 1) 1 = true ∧ fdq cX1_addAll 2 (.invokevirtual 65) 3 = true ∧ fdq cX1_addAll 5 (.pop) 1 = true ∧ fdq cX1_addAll 6 (.aload_n 0) 1 = true ∧ fdq cX1_addAll 7 (.aload_n 0) 1 = true ∧ fdq cX1_addAll 8 (.iload_n 2) 1 = true ∧ fdq cX1_addAll 9 (.invokevirtual 65) 3 = true ∧ fdq cX1_addAll 12 (.getfield 68) 3 = true ∧ fdq cX1_addAll 15 (.ifCond .le 7) 3 = true ∧ fdq cX1_addAll 18 (.iconst 1) 1 = true ∧ fdq cX1_addAll 19 (.goto 4) 3 = true ∧ fdq cX1_addAll 22 (.iconst 0) 1 = true ∧ fdq cX1_addAll 23 (.invokevirtual 140) 3 = true := by decide +kernel
theorem dX1_addAt_23 : decode cX1_addAt 23 = .ok (.invokevirtual 140, 3) := fdf dAb_41.1
theorem dX1_addAt_26 : decode cX1_addAt 26 = .ok (.ireturn, 1) := fdf dAb_41.2.1
theorem dX1_addAll_0 : decode cX1_addAll 0 = .ok (.aload_n 0, 1) := fdf dAb_41.2.2.1
theorem dX1_addAll_1 : decode cX1_addAll 1 = .ok (.iload_n 1, 1) := fdf dAb_41.2.2.2.1
theorem dX1_addAll_2 : decode cX1_addAll 2 = .ok (.invokevirtual 65, 3) := fdf dAb_41.2.2.2.2.1
theorem dX1_addAll_5 : decode cX1_addAll 5 = .ok (.pop, 1) := fdf dAb_41.2.2.2.2.2.1
theorem dX1_addAll_6 : decode cX1_addAll 6 = .ok (.aload_n 0, 1) := fdf dAb_41.2.2.2.2.2.2.1
theorem dX1_addAll_7 : decode cX1_addAll 7 = .ok (.aload_n 0, 1) := fdf dAb_41.2.2.2.2.2.2.2.1
theorem dX1_addAll_8 : decode cX1_addAll 8 = .ok (.iload_n 2, 1) := fdf dAb_41.2.2.2.2.2.2.2.2.1
theorem dX1_addAll_9 : decode cX1_addAll 9 = .ok (.invokevirtual 65, 3) := fdf dAb_41.2.2.2.2.2.2.2.2.2.1
theorem dX1_addAll_12 : decode cX1_addAll 12 = .ok (.getfield 68, 3) := fdf dAb_41.2.2.2.2.2.2.2.2.2.2.1
theorem dX1_addAll_15 : decode cX1_addAll 15 = .ok (.ifCond .le 7, 3) := fdf dAb_41.2.2.2.2.2.2.2.2.2.2.2.1
theorem dX1_addAll_18 : decode cX1_addAll 18 = .ok (.iconst 1, 1) := fdf dAb_41.2.2.2.2.2.2.2.2.2.2.2.2.1
theorem dX1_addAll_19 : decode cX1_addAll 19 = .ok (.goto 4, 3) := fdf dAb_41.2.2.2.2.2.2.2.2.2.2.2.2.2.1
theorem dX1_addAll_22 : decode cX1_addAll 22 = .ok (.iconst 0, 1) := fdf dAb_41.2.2.2.2.2.2.2.2.2.2.2.2.2.2.1
theorem dX1_addAll_23 : decode cX1_addAll 23 = .ok (.invokevirtual 140, 3) := fdf dAb_41.2.2.2.2.2.2.2.2.2.2.2.2.2.2.2
theorem dAb_42 : fdq cX1_addAll 26 (.ireturn) 1 = true ∧ fdq cX1_remove 0 (.aload_n 0) 1 = true ∧ fdq cX1_remove 1 (.iload_n 1) 1 = true ∧ fdq cX1_remove 2 (.invokevirtual 65) 3 = true ∧ fdq cX1_remove 5 (.astore_n 3) 1 = true ∧ fdq cX1_remove 6 (.aload_n 3) 1 = true ∧ fdq cX1_remove 7 (.iload_n 2) 1 = true ∧ fdq cX1_remove 8 (.invokestatic 48) 3 = true ∧ fdq cX1_remove 11 (.aload_n 0) 1 = true ∧ fdq cX1_remove 12 (.iconst 1) 1 = true ∧ fdq cX1_remove 13 (.invokevirtual 140) 3 = true ∧ fdq cX1_remove 16 (.ireturn) 1 = true ∧ fdq cX1_removeValue 0 (.aload_n 0) 1 = true ∧ fdq cX1_removeValue 1 (.iload_n 1) 1 = true ∧ fdq cX1_removeValue 2 (.invokevirtual 65) 3 = true ∧ fdq cX1_removeValue 5 (.astore_n 3) 1 = true := by decide +kernel
theorem dX1_addAll_26 : decode cX1_addAll 26 = .ok (.ireturn, 1) := fdf dAb_42.1
theorem dX1_remove_0 : decode cX1_remove 0 = .ok (.aload_n 0, 1) := fdf dAb_42.2.1
theorem dX1_remove_1 : decode cX1_remove 1 = .ok (.iload_n 1, 1) := fdf dAb_42.2.2.1
theorem dX1_remove_2 : decode cX1_remove 2 = .ok (.invokevirtual 65, 3) := fdf dAb_42.2.2.2.1
theorem dX1_remove_5 : decode cX1_remove 5 = .ok (.astore_n 3, 1) := fdf dAb_42.2.2.2.2.1
theorem dX1_remove_6 : decode cX1_remove 6 = .ok (.aload_n 3, 1) := fdf dAb_42.2.2.2.2.2.1
theorem dX1_remove_7 : decode cX1_remove 7 = .ok (.iload_n 2, 1) := fdf dAb_42.2.2.2.2.2.2.1
theorem dX1_remove_8 : decode cX1_remove 8 = .ok (.invokestatic 48, 3) := fdf dAb_42.2.2.2.2.2.2.2.1
theorem dX1_remove_11 : decode cX1_remove 11 = .ok (.aload_n 0, 1) := fdf dAb_42.2.2.2.2.2.2.2.2.1
theorem dX1_remove_12 : decode cX1_remove 12 = .ok (.iconst 1, 1) := fdf dAb_42.2.2.2.2.2.2.2.2.2.1
theorem dX1_remove_13 : decode cX1_remove 13 = .ok (.invokevirtual 140, 3) := fdf dAb_42.2.2.2.2.2.2.2.2.2.2.1
theorem dX1_remove_16 : decode cX1_remove 16 = .ok (.ireturn, 1) := fdf dAb_42.2.2.2.2.2.2.2.2.2.2.2.1
theorem dX1_removeValue_0 : decode cX1_removeValue 0 = .ok (.aload_n 0, 1) := fdf dAb_42.2.2.2.2.2.2.2.2.2.2.2.2.1
theorem dX1_removeValue_1 : decode cX1_removeValue 1 = .ok (.iload_n 1, 1) := fdf dAb_42.2.2.2.2.2.2.2.2.2.2.2.2.2.1
theorem dX1_removeValue_2 : decode cX1_removeValue 2 = .ok (.invokevirtual 65, 3) := fdf dAb_42.2.2.2.2.2.2.2.2.2.2.2.2.2.2.1
theorem dX1_removeValue_5 : decode cX1_removeValue 5 = .ok (.astore_n 3, 1) := fdf dAb_42.2.2.2.2.2.2.2.2.2.2.2.2.2.2.2
theorem dAb_43 : fdq cX1_removeValue 6 (.iload_n 2) 1 = true ∧ fdq cX1_removeValue 7 (.invokestatic 51) 3 = true ∧ fdq cX1_removeValue 10 (.aload_n 0) 1 = true ∧ fdq cX1_removeValue 11 (.aload_n 3) 1 = true ∧ fdq cX1_removeValue 12 (.iload_n 2) 1 = true ∧ fdq cX1_removeValue 13 (.invokestatic 86) 3 = true ∧ fdq cX1_removeValue 16 (.invokevirtual 140) 3 = true ∧ fdq cX1_removeValue 19 (.ireturn) 1 = true ∧ fdq cX1_removeAll 0 (.aload_n 0) 1 = true ∧ fdq cX1_removeAll 1 (.iload_n 1) 1 = true ∧ fdq cX1_removeAll 2 (.invokevirtual 65) 3 = true ∧ fdq cX1_removeAll 5 (.astore_n 3) 1 = true ∧ fdq cX1_removeAll 6 (.aload_n 0) 1 = true ∧ fdq cX1_removeAll 7 (.aload_n 3) 1 = true ∧ fdq cX1_removeAll 8 (.aload_n 0) 1 = true ∧ fdq cX1_removeAll 9 (.iload_n 2) 1 = true := by decide +kernel
theorem dX1_removeValue_6 : decode cX1_removeValue 6 = .ok (.iload_n 2, 1) := fdf dAb_43.1
theorem dX1_removeValue_7 : decode cX1_removeValue 7 = .ok (.invokestatic 51, 3) := fdf dAb_43.2.1
theorem dX1_removeValue_10 : decode cX1_removeValue 10 = .ok (.aload_n 0, 1) := fdf dAb_43.2.2.1
theorem dX1_removeValue_11 : decode cX1_removeValue 11 = .ok (.aload_n 3, 1) := fdf dAb_43.2.2.2.1
theorem dX1_removeValue_12 : decode cX1_removeValue 12 = .ok (.iload_n 2, 1) := fdf dAb_43.2.2.2.2.1
theorem dX1_removeValue_13 : decode cX1_removeValue 13 = .ok (.invokestatic 86, 3) := fdf dAb_43.2.2.2.2.2.1
theorem dX1_removeValue_16 : decode cX1_removeValue 16 = .ok (.invokevirtual 140, 3) := fdf dAb_43.2.2.2.2.2.2.1
theorem dX1_removeValue_19 : decode cX1_removeValue 19 = .ok (.ireturn, 1) := fdf dAb_43.2.2.2.2.2.2.2.1
theorem dX1_removeAll_0 : decode cX1_removeAll 0 = .ok (.aload_n 0, 1) := fdf dAb_43.2.2.2.2.2.2.2.2.1
theorem dX1_removeAll_1 : decode cX1_removeAll 1 = .ok (.iload_n 1, 1) := fdf dAb_43.2.2.2.2.2.2.2.2.2.1
theorem dX1_removeAll_2 : decode cX1_removeAll 2 = .ok (.invokevirtual 65, 3) := fdf dAb_43.2.2.2.2.2.2.2.2.2.2.1
theorem dX1_removeAll_5 : decode cX1_removeAll 5 = .ok (.astore_n 3, 1) := fdf dAb_43.2.2.2.2.2.2.2.2.2.2.2.1
theorem dX1_removeAll_6 : decode cX1_removeAll 6 = .ok (.aload_n 0, 1) := fdf dAb_43.2.2.2.2.2.2.2.2.2.2.2.2.1
theorem dX1_removeAll_7 : decode cX1_removeAll 7 = .ok (.aload_n 3, 1) := fdf dAb_43.2.2.2.2.2.2.2.2.2.2.2.2.2.1
theorem dX1_removeAll_8 : decode cX1_removeAll 8 = .ok (.aload_n 0, 1) := fdf dAb_43.2.2.2.2.2.2.2.2.2.2.2.2.2.2.1
theorem dX1_removeAll_9 : decode cX1_removeAll 9 = .ok (.iload_n 2, 1) := fdf dAb_43.2.2.2.2.2.2.2.2.2.2.2.2.2.2.2
theorem dAb_44 : fdq cX1_removeAll 10 (.invokevirtual 65) 3 = true ∧ fdq cX1_removeAll 13 (.iconst 1) 1 = true ∧ fdq cX1_removeAll 14 (.invokestatic 90) 3 = true ∧ fdq cX1_removeAll 17 (.invokevirtual 140) 3 = true ∧ fdq cX1_removeAll 20 (.ireturn) 1 = true ∧ fdq cX1_retainAll 0 (.aload_n 0) 1 = true ∧ fdq cX1_retainAll 1 (.iload_n 1) 1 = true ∧ fdq cX1_retainAll 2 (.invokevirtual 65) 3 = true ∧ fdq cX1_retainAll 5 (.astore_n 3) 1 = true ∧ fdq cX1_retainAll 6 (.aload_n 0) 1 = true ∧ fdq cX1_retainAll 7 (.aload_n 3) 1 = true ∧ fdq cX1_retainAll 8 (.aload_n 0) 1 = true ∧ fdq cX1_retainAll 9 (.iload_n 2) 1 = true ∧ fdq cX1_retainAll 10 (.invokevirtual 65) 3 = true ∧ fdq cX1_retainAll 13 (.iconst 0) 1 = true ∧ fdq cX1_retainAll 14 (.invokestatic 90) 3 = true := by decide +kernel
theorem dX1_removeAll_10 : decode cX1_removeAll 10 = .ok (.invokevirtual 65, 3) := fdf dAb_44.1
theorem dX1_removeAll_13 : decode cX1_removeAll 13 = .ok (.iconst 1, 1) := fdf dAb_44.2.1
theorem dX1_removeAll_14 : decode cX1_removeAll 14 = .ok (.invokestatic 90, 3) := fdf dAb_44.2.2.1
theorem dX1_removeAll_17 : decode cX1_removeAll 17 = .ok (.invokevirtual 140, 3) := fdf dAb_44.2.2.2.1
theorem dX1_removeAll_20 : decode cX1_removeAll 20 = .ok (.ireturn, 1) := fdf dAb_44.2.2.2.2.1
theorem dX1_retainAll_0 : decode cX1_retainAll 0 = .ok (.aload_n 0, 1) := fdf dAb_44.2.2.2.2.2.1
theorem dX1_retainAll_1 : decode cX1_retainAll 1 = .ok (.iload_n 1, 1) := fdf dAb_44.2.2.2.2.2.2.1
theorem dX1_retainAll_2 : decode cX1_retainAll 2 = .ok (.invokevirtual 65, 3) := fdf dAb_44.2.2.2.2.2.2.2.1
theorem dX1_retainAll_5 : decode cX1_retainAll 5 = .ok (.astore_n 3, 1) := fdf dAb_44.2.2.2.2.2.2.2.2.1
theorem dX1_retainAll_6 : decode cX1_retainAll 6 = .ok (.aload_n 0, 1) := fdf dAb_44.2.2.2.2.2.2.2.2.2.1
theorem dX1_retainAll_7 : decode cX1_retainAll 7 = .ok (.aload_n 3, 1) := fdf dAb_44.2.2.2.2.2.2.2.2.2.2.1
theorem dX1_retainAll_8 : decode cX1_retainAll 8 = .ok (.aload_n 0, 1) := fdf dAb_44.2.2.2.2.2.2.2.2.2.2.2.1
theorem dX1_retainAll_9 : decode cX1_retainAll 9 = .ok (.iload_n 2, 1) := fdf dAb_44.2.2.2.2.2.2.2.2.2.2.2.2.1
theorem dX1_retainAll_10 : decode cX1_retainAll 10 = .ok (.invokevirtual 65, 3) := fdf dAb_44.2.2.2.2.2.2.2.2.2.2.2.2.2.1
theorem dX1_retainAll_13 : decode cX1_retainAll 13 = .ok (.iconst 0, 1) := fdf dAb_44.2.2.2.2.2.2.2.2.2.2.2.2.2.2.1
theorem dX1_retainAll_14 : decode cX1_retainAll 14 = .ok (.invokestatic 90, 3) := fdf dAb_44.2.2.2.2.2.2.2.2.2.2.2.2.2.2.2
theorem dAb_45 : fdq cX1_retainAll 17 (.invokevirtual 140) 3 = true ∧ fdq cX1_retainAll 20 (.ireturn) 1 = true ∧ fdq cX1_removeIf 0 (.aload_n 0) 1 = true ∧ fdq cX1_removeIf 1 (.iload_n 1) 1 = true ∧ fdq cX1_removeIf 2 (.invokevirtual 65) 3 = true ∧ fdq cX1_removeIf 5 (.astore 4) 2 = true ∧ fdq cX1_removeIf 7 (.iload_n 2) 1 = true ∧ fdq cX1_removeIf 8 (.iconst 0) 1 = true ∧ fdq cX1_removeIf 9 (.iconst 2) 1 = true ∧ fdq cX1_removeIf 10 (.invokestatic 33) 3 = true ∧ fdq cX1_removeIf 13 (.iload_n 3) 1 = true ∧ fdq cX1_removeIf 14 (.bipush (-99)) 2 = true ∧ fdq cX1_removeIf 16 (.bipush 99) 2 = true ∧ fdq cX1_removeIf 18 (.invokestatic 33) 3 = true ∧ fdq cX1_removeIf 21 (.aload_n 0) 1 = true ∧ fdq cX1_removeIf 22 (.aload 4) 2 = true := by decide +kernel
theorem dX1_retainAll_17 : decode cX1_retainAll 17 = .ok (.invokevirtual 140, 3) := fdf dAb_45.1
theorem dX1_retainAll_20 : decode cX1_retainAll 20 = .ok (.ireturn, 1) := fdf dAb_45.2.1
theorem dX1_removeIf_0 : decode cX1_removeIf 0 = .ok (.aload_n 0, 1) := fdf dAb_45.2.2.1
theorem dX1_removeIf_1 : decode cX1_removeIf 1 = .ok (.iload_n 1, 1) := fdf dAb_45.2.2.2.1
theorem dX1_removeIf_2 : decode cX1_removeIf 2 = .ok (.invokevirtual 65, 3) := fdf dAb_45.2.2.2.2.1
theorem dX1_removeIf_5 : decode cX1_removeIf 5 = .ok (.astore 4, 2) := fdf dAb_45.2.2.2.2.2.1
theorem dX1_removeIf_7 : decode cX1_removeIf 7 = .ok (.iload_n 2, 1) := fdf dAb_45.2.2.2.2.2.2.1
theorem dX1_removeIf_8 : decode cX1_removeIf 8 = .ok (.iconst 0, 1) := fdf dAb_45.2.2.2.2.2.2.2.1
theorem dX1_removeIf_9 : decode cX1_removeIf 9 = .ok (.iconst 2, 1) := fdf dAb_45.2.2.2.2.2.2.2.2.1
theorem dX1_removeIf_10 : decode cX1_removeIf 10 = .ok (.invokestatic 33, 3) := fdf dAb_45.2.2.2.2.2.2.2.2.2.1
theorem dX1_removeIf_13 : decode cX1_removeIf 13 = .ok (.iload_n 3, 1) := fdf dAb_45.2.2.2.2.2.2.2.2.2.2.1
theorem dX1_removeIf_14 : decode cX1_removeIf 14 = .ok (.bipush (-99), 2) := fdf dAb_45.2.2.2.2.2.2.2.2.2.2.2.1
theorem dX1_removeIf_16 : decode cX1_removeIf 16 = .ok (.bipush 99, 2) := fdf dAb_45.2.2.2.2.2.2.2.2.2.2.2.2.1
theorem dX1_removeIf_18 : decode cX1_removeIf 18 = .ok (.invokestatic 33, 3) := fdf dAb_45.2.2.2.2.2.2.2.2.2.2.2.2.2.1
theorem dX1_removeIf_21 : decode cX1_removeIf 21 = .ok (.aload_n 0, 1) := fdf dAb_45.2.2.2.2.2.2.2.2.2.2.2.2.2.2.1
theorem dX1_removeIf_22 : decode cX1_removeIf 22 = .ok (.aload 4, 2) := fdf dAb_45.2.2.2.2.2.2.2.2.2.2.2.2.2.2.2
theorem dAb_46 : fdq cX1_removeIf 24 (.iload_n 2) 1 = true ∧ fdq cX1_removeIf 25 (.iload_n 3) 1 = true ∧ fdq cX1_removeIf 26 (.invokestatic 144) 3 = true ∧ fdq cX1_removeIf 29 (.invokevirtual 140) 3 = true ∧ fdq cX1_removeIf 32 (.ireturn) 1 = true ∧ fdq cX1_clear 0 (.aload_n 0) 1 = true ∧ fdq cX1_clear 1 (.aload_n 0) 1 = true ∧ fdq cX1_clear 2 (.iload_n 1) 1 = true ∧ fdq cX1_clear 3 (.invokevirtual 65) 3 = true ∧ fdq cX1_clear 6 (.getfield 68) 3 = true ∧ fdq cX1_clear 9 (.ifCond .le 7) 3 = true ∧ fdq cX1_clear 12 (.iconst 1) 1 = true ∧ fdq cX1_clear 13 (.goto 4) 3 = true ∧ fdq cX1_clear 16 (.iconst 0) 1 = true ∧ fdq cX1_clear 17 (.invokevirtual 140) 3 = true ∧ fdq cX1_clear 20 (.ireturn) 1 = true := by decide +kernel
theorem dX1_removeIf_24 : decode cX1_removeIf 24 = .ok (.iload_n 2, 1) := fdf dAb_46.1
theorem dX1_removeIf_25 : decode cX1_removeIf 25 = .ok (.iload_n 3, 1) := fdf dAb_46.2.1
theorem dX1_removeIf_26 : decode cX1_removeIf 26 = .ok (.invokestatic 144, 3) := fdf dAb_46.2.2.1
theorem dX1_removeIf_29 : decode cX1_removeIf 29 = .ok (.invokevirtual 140, 3) := fdf dAb_46.2.2.2.1
theorem dX1_removeIf_32 : decode cX1_removeIf 32 = .ok (.ireturn, 1) := fdf dAb_46.2.2.2.2.1
theorem dX1_clear_0 : decode cX1_clear 0 = .ok (.aload_n 0, 1) := fdf dAb_46.2.2.2.2.2.1
theorem dX1_clear_1 : decode cX1_clear 1 = .ok (.aload_n 0, 1) := fdf dAb_46.2.2.2.2.2.2.1
theorem dX1_clear_2 : decode cX1_clear 2 = .ok (.iload_n 1, 1) := fdf dAb_46.2.2.2.2.2.2.2.1
theorem dX1_clear_3 : decode cX1_clear 3 = .ok (.invokevirtual 65, 3) := fdf dAb_46.2.2.2.2.2.2.2.2.1
theorem dX1_clear_6 : decode cX1_clear 6 = .ok (.getfield 68, 3) := fdf dAb_46.2.2.2.2.2.2.2.2.2.1
theorem dX1_clear_9 : decode cX1_clear 9 = .ok (.ifCond .le 7, 3) := fdf dAb_46.2.2.2.2.2.2.2.2.2.2.1
theorem dX1_clear_12 : decode cX1_clear 12 = .ok (.iconst 1, 1) := fdf dAb_46.2.2.2.2.2.2.2.2.2.2.2.1
theorem dX1_clear_13 : decode cX1_clear 13 = .ok (.goto 4, 3) := fdf dAb_46.2.2.2.2.2.2.2.2.2.2.2.2.1
theorem dX1_clear_16 : decode cX1_clear 16 = .ok (.iconst 0, 1) := fdf dAb_46.2.2.2.2.2.2.2.2.2.2.2.2.2.1
theorem dX1_clear_17 : decode cX1_clear 17 = .ok (.invokevirtual 140, 3) := fdf dAb_46.2.2.2.2.2.2.2.2.2.2.2.2.2.2.1
theorem dX1_clear_20 : decode cX1_clear 20 = .ok (.ireturn, 1) := fdf dAb_46.2.2.2.2.2.2.2.2.2.2.2.2.2.2.2
theorem dAb_47 : fdq cX1_walkChange 0 (.aload_n 0) 1 = true ∧ fdq cX1_walkChange 1 (.iload_n 1) 1 = true ∧ fdq cX1_walkChange 2 (.invokevirtual 65) 3 = true ∧ fdq cX1_walkChange 5 (.astore 4) 2 = true ∧ fdq cX1_walkChange 7 (.aload 4) 2 = true ∧ fdq cX1_walkChange 9 (.iload_n 2) 1 = true ∧ fdq cX1_walkChange 10 (.invokestatic 48) 3 = true ∧ fdq cX1_walkChange 13 (.iload_n 3) 1 = true ∧ fdq cX1_walkChange 14 (.iconst 0) 1 = true ∧ fdq cX1_walkChange 15 (.iconst 2) 1 = true ∧ fdq cX1_walkChange 16 (.invokestatic 33) 3 = true ∧ fdq cX1_walkChange 19 (.aload_n 0) 1 = true ∧ fdq cX1_walkChange 20 (.iconst 1) 1 = true ∧ fdq cX1_walkChange 21 (.invokevirtual 140) 3 = true ∧ fdq cX1_walkChange 24 (.ireturn) 1 = true ∧ fdq cX1_knock 0 (.aload_n 0) 1 = true := by decide +kernel
theorem dX1_walkChange_0 : decode cX1_walkChange 0 = .ok (.aload_n 0, 1) := fdf dAb_47.1
theorem dX1_walkChange_1 : decode cX1_walkChange 1 = .ok (.iload_n 1, 1) := fdf dAb_47.2.1
theorem dX1_walkChange_2 : decode cX1_walkChange 2 = .ok (.invokevirtual 65, 3) := fdf dAb_47.2.2.1
theorem dX1_walkChange_5 : decode cX1_walkChange 5 = .ok (.astore 4, 2) := fdf dAb_47.2.2.2.1
theorem dX1_walkChange_7 : decode cX1_walkChange 7 = .ok (.aload 4, 2) := fdf dAb_47.2.2.2.2.1
theorem dX1_walkChange_9 : decode cX1_walkChange 9 = .ok (.iload_n 2, 1) := fdf dAb_47.2.2.2.2.2.1
theorem dX1_walkChange_10 : decode cX1_walkChange 10 = .ok (.invokestatic 48, 3) := fdf dAb_47.2.2.2.2.2.2.1
theorem dX1_walkChange_13 : decode cX1_walkChange 13 = .ok (.iload_n 3, 1) := fdf dAb_47.2.2.2.2.2.2.2.1
theorem dX1_walkChange_14 : decode cX1_walkChange 14 = .ok (.iconst 0, 1) := fdf dAb_47.2.2.2.2.2.2.2.2.1
theorem dX1_walkChange_15 : decode cX1_walkChange 15 = .ok (.iconst 2, 1) := fdf dAb_47.2.2.2.2.2.2.2.2.2.1
theorem dX1_walkChange_16 : decode cX1_walkChange 16 = .ok (.invokestatic 33, 3) := fdf dAb_47.2.2.2.2.2.2.2.2.2.2.1
theorem dX1_walkChange_19 : decode cX1_walkChange 19 = .ok (.aload_n 0, 1) := fdf dAb_47.2.2.2.2.2.2.2.2.2.2.2.1
theorem dX1_walkChange_20 : decode cX1_walkChange 20 = .ok (.iconst 1, 1) := fdf dAb_47.2.2.2.2.2.2.2.2.2.2.2.2.1
theorem dX1_walkChange_21 : decode cX1_walkChange 21 = .ok (.invokevirtual 140, 3) := fdf dAb_47.2.2.2.2.2.2.2.2.2.2.2.2.2.1
theorem dX1_walkChange_24 : decode cX1_walkChange 24 = .ok (.ireturn, 1) := fdf dAb_47.2.2.2.2.2.2.2.2.2.2.2.2.2.2.1
theorem dX1_knock_0 : decode cX1_knock 0 = .ok (.aload_n 0, 1) := fdf dAb_47.2.2.2.2.2.2.2.2.2.2.2.2.2.2.2
theorem dAb_48 : fdq cX1_knock 1 (.dup) 1 = true ∧ fdq cX1_knock 2 (.getfield 19) 3 = true ∧ fdq cX1_knock 5 (.iconst 1) 1 = true ∧ fdq cX1_knock 6 (.iadd) 1 = true ∧ fdq cX1_knock 7 (.putfield 19) 3 = true ∧ fdq cX1_knock 10 (.aload_n 0) 1 = true ∧ fdq cX1_knock 11 (.getfield 19) 3 = true ∧ fdq cX1_knock 14 (.ireturn) 1 = true ∧ fdq cX1_house 0 (.iload_n 1) 1 = true ∧ fdq cX1_house 1 (.iconst 0) 1 = true ∧ fdq cX1_house 2 (.iconst 3) 1 = true ∧ fdq cX1_house 3 (.invokestatic 33) 3 = true ∧ fdq cX1_house 6 (.iload_n 1) 1 = true ∧ fdq cX1_house 32 (.aload_n 0) 1 = true ∧ fdq cX1_house 33 (.getfield 19) 3 = true ∧ fdq cX1_house 36 (.ireturn) 1 = true := by decide +kernel
theorem dX1_knock_1 : decode cX1_knock 1 = .ok (.dup, 1) := fdf dAb_48.1
theorem dX1_knock_2 : decode cX1_knock 2 = .ok (.getfield 19, 3) := fdf dAb_48.2.1
theorem dX1_knock_5 : decode cX1_knock 5 = .ok (.iconst 1, 1) := fdf dAb_48.2.2.1
theorem dX1_knock_6 : decode cX1_knock 6 = .ok (.iadd, 1) := fdf dAb_48.2.2.2.1
theorem dX1_knock_7 : decode cX1_knock 7 = .ok (.putfield 19, 3) := fdf dAb_48.2.2.2.2.1
theorem dX1_knock_10 : decode cX1_knock 10 = .ok (.aload_n 0, 1) := fdf dAb_48.2.2.2.2.2.1
theorem dX1_knock_11 : decode cX1_knock 11 = .ok (.getfield 19, 3) := fdf dAb_48.2.2.2.2.2.2.1
theorem dX1_knock_14 : decode cX1_knock 14 = .ok (.ireturn, 1) := fdf dAb_48.2.2.2.2.2.2.2.1
theorem dX1_house_0 : decode cX1_house 0 = .ok (.iload_n 1, 1) := fdf dAb_48.2.2.2.2.2.2.2.2.1
theorem dX1_house_1 : decode cX1_house 1 = .ok (.iconst 0, 1) := fdf dAb_48.2.2.2.2.2.2.2.2.2.1
theorem dX1_house_2 : decode cX1_house 2 = .ok (.iconst 3, 1) := fdf dAb_48.2.2.2.2.2.2.2.2.2.2.1
theorem dX1_house_3 : decode cX1_house 3 = .ok (.invokestatic 33, 3) := fdf dAb_48.2.2.2.2.2.2.2.2.2.2.2.1
theorem dX1_house_6 : decode cX1_house 6 = .ok (.iload_n 1, 1) := fdf dAb_48.2.2.2.2.2.2.2.2.2.2.2.2.1
theorem dX1_house_32 : decode cX1_house 32 = .ok (.aload_n 0, 1) := fdf dAb_48.2.2.2.2.2.2.2.2.2.2.2.2.2.1
theorem dX1_house_33 : decode cX1_house 33 = .ok (.getfield 19, 3) := fdf dAb_48.2.2.2.2.2.2.2.2.2.2.2.2.2.2.1
theorem dX1_house_36 : decode cX1_house 36 = .ok (.ireturn, 1) := fdf dAb_48.2.2.2.2.2.2.2.2.2.2.2.2.2.2.2
theorem dAb_49 : fdq cX1_house 37 (.aload_n 0) 1 = true ∧ fdq cX1_house 38 (.getfield 23) 3 = true ∧ fdq cX1_house 41 (.ireturn) 1 = true ∧ fdq cX1_house 42 (.aload_n 0) 1 = true ∧ fdq cX1_house 43 (.invokevirtual 148) 3 = true ∧ fdq cX1_house 46 (.ireturn) 1 = true ∧ fdq cX1_house 47 (.aload_n 0) 1 = true ∧ fdq cX1_house 48 (.invokevirtual 152) 3 = true ∧ fdq cX1_house 51 (.ireturn) 1 = true ∧ fdq cX1_rowOf 0 (.iload_n 1) 1 = true ∧ fdq cX1_rowOf 1 (.iconst 0) 1 = true ∧ fdq cX1_rowOf 2 (.bipush 6) 2 = true ∧ fdq cX1_rowOf 4 (.invokestatic 33) 3 = true ∧ fdq cX1_rowOf 7 (.aload_n 0) 1 = true ∧ fdq cX1_rowOf 8 (.iload_n 1) 1 = true ∧ fdq cX1_rowOf 9 (.invokevirtual 155) 3 = true := by decide +kernel
theorem dX1_house_37 : decode cX1_house 37 = .ok (.aload_n 0, 1) := fdf dAb_49.1
theorem dX1_house_38 : decode cX1_house 38 = .ok (.getfield 23, 3) := fdf dAb_49.2.1
theorem dX1_house_41 : decode cX1_house 41 = .ok (.ireturn, 1) := fdf dAb_49.2.2.1
theorem dX1_house_42 : decode cX1_house 42 = .ok (.aload_n 0, 1) := fdf dAb_49.2.2.2.1
theorem dX1_house_43 : decode cX1_house 43 = .ok (.invokevirtual 148, 3) := fdf dAb_49.2.2.2.2.1
theorem dX1_house_46 : decode cX1_house 46 = .ok (.ireturn, 1) := fdf dAb_49.2.2.2.2.2.1
theorem dX1_house_47 : decode cX1_house 47 = .ok (.aload_n 0, 1) := fdf dAb_49.2.2.2.2.2.2.1
theorem dX1_house_48 : decode cX1_house 48 = .ok (.invokevirtual 152, 3) := fdf dAb_49.2.2.2.2.2.2.2.1
theorem dX1_house_51 : decode cX1_house 51 = .ok (.ireturn, 1) := fdf dAb_49.2.2.2.2.2.2.2.2.1
theorem dX1_rowOf_0 : decode cX1_rowOf 0 = .ok (.iload_n 1, 1) := fdf dAb_49.2.2.2.2.2.2.2.2.2.1
theorem dX1_rowOf_1 : decode cX1_rowOf 1 = .ok (.iconst 0, 1) := fdf dAb_49.2.2.2.2.2.2.2.2.2.2.1
theorem dX1_rowOf_2 : decode cX1_rowOf 2 = .ok (.bipush 6, 2) := fdf dAb_49.2.2.2.2.2.2.2.2.2.2.2.1
theorem dX1_rowOf_4 : decode cX1_rowOf 4 = .ok (.invokestatic 33, 3) := fdf dAb_49.2.2.2.2.2.2.2.2.2.2.2.2.1
theorem dX1_rowOf_7 : decode cX1_rowOf 7 = .ok (.aload_n 0, 1) := fdf dAb_49.2.2.2.2.2.2.2.2.2.2.2.2.2.1
theorem dX1_rowOf_8 : decode cX1_rowOf 8 = .ok (.iload_n 1, 1) := fdf dAb_49.2.2.2.2.2.2.2.2.2.2.2.2.2.2.1
theorem dX1_rowOf_9 : decode cX1_rowOf 9 = .ok (.invokevirtual 155, 3) := fdf dAb_49.2.2.2.2.2.2.2.2.2.2.2.2.2.2.2
theorem dAb_50 : fdq cX1_rowOf 12 (.astore_n 2) 1 = true ∧ fdq cX1_rowOf 13 (.aload_n 2) 1 = true ∧ fdq cX1_rowOf 14 (.ifnonnull 7) 3 = true ∧ fdq cX1_rowOf 17 (.iconst (-1)) 1 = true ∧ fdq cX1_rowOf 18 (.goto 7) 3 = true ∧ fdq cX1_rowOf 21 (.aload_n 2) 1 = true ∧ fdq cX1_rowOf 22 (.getfield 158) 3 = true ∧ fdq cX1_rowOf 25 (.ireturn) 1 = true ∧ fdq cX1_begin 0 (.iload_n 1) 1 = true ∧ fdq cX1_begin 1 (.iconst 0) 1 = true ∧ fdq cX1_begin 2 (.bipush 6) 2 = true ∧ fdq cX1_begin 4 (.invokestatic 33) 3 = true ∧ fdq cX1_begin 7 (.aload_n 0) 1 = true ∧ fdq cX1_begin 8 (.iload_n 1) 1 = true ∧ fdq cX1_begin 9 (.invokevirtual 155) 3 = true ∧ fdq cX1_begin 12 (.astore_n 2) 1 = true := by decide +kernel
theorem dX1_rowOf_12 : decode cX1_rowOf 12 = .ok (.astore_n 2, 1) := fdf dAb_50.1
theorem dX1_rowOf_13 : decode cX1_rowOf 13 = .ok (.aload_n 2, 1) := fdf dAb_50.2.1
theorem dX1_rowOf_14 : decode cX1_rowOf 14 = .ok (.ifnonnull 7, 3) := fdf dAb_50.2.2.1
theorem dX1_rowOf_17 : decode cX1_rowOf 17 = .ok (.iconst (-1), 1) := fdf dAb_50.2.2.2.1
theorem dX1_rowOf_18 : decode cX1_rowOf 18 = .ok (.goto 7, 3) := fdf dAb_50.2.2.2.2.1
theorem dX1_rowOf_21 : decode cX1_rowOf 21 = .ok (.aload_n 2, 1) := fdf dAb_50.2.2.2.2.2.1
theorem dX1_rowOf_22 : decode cX1_rowOf 22 = .ok (.getfield 158, 3) := fdf dAb_50.2.2.2.2.2.2.1
theorem dX1_rowOf_25 : decode cX1_rowOf 25 = .ok (.ireturn, 1) := fdf dAb_50.2.2.2.2.2.2.2.1
theorem dX1_begin_0 : decode cX1_begin 0 = .ok (.iload_n 1, 1) := fdf dAb_50.2.2.2.2.2.2.2.2.1
theorem dX1_begin_1 : decode cX1_begin 1 = .ok (.iconst 0, 1) := fdf dAb_50.2.2.2.2.2.2.2.2.2.1
theorem dX1_begin_2 : decode cX1_begin 2 = .ok (.bipush 6, 2) := fdf dAb_50.2.2.2.2.2.2.2.2.2.2.1
theorem dX1_begin_4 : decode cX1_begin 4 = .ok (.invokestatic 33, 3) := fdf dAb_50.2.2.2.2.2.2.2.2.2.2.2.1
theorem dX1_begin_7 : decode cX1_begin 7 = .ok (.aload_n 0, 1) := fdf dAb_50.2.2.2.2.2.2.2.2.2.2.2.2.1
theorem dX1_begin_8 : decode cX1_begin 8 = .ok (.iload_n 1, 1) := fdf dAb_50.2.2.2.2.2.2.2.2.2.2.2.2.2.1
theorem dX1_begin_9 : decode cX1_begin 9 = .ok (.invokevirtual 155, 3) := fdf dAb_50.2.2.2.2.2.2.2.2.2.2.2.2.2.2.1
theorem dX1_begin_12 : decode cX1_begin 12 = .ok (.astore_n 2, 1) := fdf dAb_50.2.2.2.2.2.2.2.2.2.2.2.2.2.2.2
theorem dAb_51 : fdq cX1_begin 13 (.aload_n 2) 1 = true ∧ fdq cX1_begin 14 (.ifnonnull 7) 3 = true ∧ fdq cX1_begin 17 (.iconst (-1)) 1 = true ∧ fdq cX1_begin 18 (.goto 7) 3 = true ∧ fdq cX1_begin 21 (.aload_n 2) 1 = true ∧ fdq cX1_begin 22 (.getfield 161) 3 = true ∧ fdq cX1_begin 25 (.ireturn) 1 = true ∧ fdq cX1_isSound 0 (.iconst 0) 1 = true ∧ fdq cX1_isSound 1 (.istore_n 1) 1 = true ∧ fdq cX1_isSound 2 (.iload_n 1) 1 = true ∧ fdq cX1_isSound 3 (.bipush 7) 2 = true ∧ fdq cX1_isSound 5 (.if_icmp .ge 29) 3 = true ∧ fdq cX1_isSound 8 (.aload_n 0) 1 = true ∧ fdq cX1_isSound 9 (.iload_n 1) 1 = true ∧ fdq cX1_isSound 10 (.invokevirtual 155) 3 = true ∧ fdq cX1_isSound 13 (.astore_n 2) 1 = true := by decide +kernel
theorem dX1_begin_13 : decode cX1_begin 13 = .ok (.aload_n 2, 1) := fdf dAb_51.1
theorem dX1_begin_14 : decode cX1_begin 14 = .ok (.ifnonnull 7, 3) := fdf dAb_51.2.1
theorem dX1_begin_17 : decode cX1_begin 17 = .ok (.iconst (-1), 1) := fdf dAb_51.2.2.1
theorem dX1_begin_18 : decode cX1_begin 18 = .ok (.goto 7, 3) := fdf dAb_51.2.2.2.1
theorem dX1_begin_21 : decode cX1_begin 21 = .ok (.aload_n 2, 1) := fdf dAb_51.2.2.2.2.1
theorem dX1_begin_22 : decode cX1_begin 22 = .ok (.getfield 161, 3) := fdf dAb_51.2.2.2.2.2.1
theorem dX1_begin_25 : decode cX1_begin 25 = .ok (.ireturn, 1) := fdf dAb_51.2.2.2.2.2.2.1
theorem dX1_isSound_0 : decode cX1_isSound 0 = .ok (.iconst 0, 1) := fdf dAb_51.2.2.2.2.2.2.2.1
theorem dX1_isSound_1 : decode cX1_isSound 1 = .ok (.istore_n 1, 1) := fdf dAb_51.2.2.2.2.2.2.2.2.1
theorem dX1_isSound_2 : decode cX1_isSound 2 = .ok (.iload_n 1, 1) := fdf dAb_51.2.2.2.2.2.2.2.2.2.1
theorem dX1_isSound_3 : decode cX1_isSound 3 = .ok (.bipush 7, 2) := fdf dAb_51.2.2.2.2.2.2.2.2.2.2.1
theorem dX1_isSound_5 : decode cX1_isSound 5 = .ok (.if_icmp .ge 29, 3) := fdf dAb_51.2.2.2.2.2.2.2.2.2.2.2.1
theorem dX1_isSound_8 : decode cX1_isSound 8 = .ok (.aload_n 0, 1) := fdf dAb_51.2.2.2.2.2.2.2.2.2.2.2.2.1
theorem dX1_isSound_9 : decode cX1_isSound 9 = .ok (.iload_n 1, 1) := fdf dAb_51.2.2.2.2.2.2.2.2.2.2.2.2.2.1
theorem dX1_isSound_10 : decode cX1_isSound 10 = .ok (.invokevirtual 155, 3) := fdf dAb_51.2.2.2.2.2.2.2.2.2.2.2.2.2.2.1
theorem dX1_isSound_13 : decode cX1_isSound 13 = .ok (.astore_n 2, 1) := fdf dAb_51.2.2.2.2.2.2.2.2.2.2.2.2.2.2.2
theorem dAb_52 : fdq cX1_isSound 14 (.aload_n 2) 1 = true ∧ fdq cX1_isSound 15 (.ifnull 13) 3 = true ∧ fdq cX1_isSound 18 (.aload_n 0) 1 = true ∧ fdq cX1_isSound 19 (.aload_n 2) 1 = true ∧ fdq cX1_isSound 20 (.invokevirtual 164) 3 = true ∧ fdq cX1_isSound 23 (.ifCond .ne 5) 3 = true ∧ fdq cX1_isSound 26 (.iconst 0) 1 = true ∧ fdq cX1_isSound 27 (.ireturn) 1 = true ∧ fdq cX1_isSound 28 (.iinc 1 1) 3 = true ∧ fdq cX1_isSound 31 (.goto (-29)) 3 = true ∧ fdq cX1_isSound 34 (.iconst 1) 1 = true ∧ fdq cX1_isSound 35 (.ireturn) 1 = true ∧ fdq cX1_digest 0 (.ldc2_w 168) 3 = true ∧ fdq cX1_digest 3 (.lstore_n 1) 1 = true ∧ fdq cX1_digest 4 (.iconst 0) 1 = true ∧ fdq cX1_digest 5 (.istore_n 3) 1 = true := by decide +kernel
theorem dX1_isSound_14 : decode cX1_isSound 14 = .ok (.aload_n 2, 1) := fdf dAb_52.1
theorem dX1_isSound_15 : decode cX1_isSound 15 = .ok (.ifnull 13, 3) := fdf dAb_52.2.1
theorem dX1_isSound_18 : decode cX1_isSound 18 = .ok (.aload_n 0, 1) := fdf dAb_52.2.2.1
theorem dX1_isSound_19 : decode cX1_isSound 19 = .ok (.aload_n 2, 1) := fdf dAb_52.2.2.2.1
theorem dX1_isSound_20 : decode cX1_isSound 20 = .ok (.invokevirtual 164, 3) := fdf dAb_52.2.2.2.2.1
theorem dX1_isSound_23 : decode cX1_isSound 23 = .ok (.ifCond .ne 5, 3) := fdf dAb_52.2.2.2.2.2.1
theorem dX1_isSound_26 : decode cX1_isSound 26 = .ok (.iconst 0, 1) := fdf dAb_52.2.2.2.2.2.2.1
theorem dX1_isSound_27 : decode cX1_isSound 27 = .ok (.ireturn, 1) := fdf dAb_52.2.2.2.2.2.2.2.1
theorem dX1_isSound_28 : decode cX1_isSound 28 = .ok (.iinc 1 1, 3) := fdf dAb_52.2.2.2.2.2.2.2.2.1
theorem dX1_isSound_31 : decode cX1_isSound 31 = .ok (.goto (-29), 3) := fdf dAb_52.2.2.2.2.2.2.2.2.2.1
theorem dX1_isSound_34 : decode cX1_isSound 34 = .ok (.iconst 1, 1) := fdf dAb_52.2.2.2.2.2.2.2.2.2.2.1
theorem dX1_isSound_35 : decode cX1_isSound 35 = .ok (.ireturn, 1) := fdf dAb_52.2.2.2.2.2.2.2.2.2.2.2.1
theorem dX1_digest_0 : decode cX1_digest 0 = .ok (.ldc2_w 168, 3) := fdf dAb_52.2.2.2.2.2.2.2.2.2.2.2.2.1
theorem dX1_digest_3 : decode cX1_digest 3 = .ok (.lstore_n 1, 1) := fdf dAb_52.2.2.2.2.2.2.2.2.2.2.2.2.2.1
theorem dX1_digest_4 : decode cX1_digest 4 = .ok (.iconst 0, 1) := fdf dAb_52.2.2.2.2.2.2.2.2.2.2.2.2.2.2.1
theorem dX1_digest_5 : decode cX1_digest 5 = .ok (.istore_n 3, 1) := fdf dAb_52.2.2.2.2.2.2.2.2.2.2.2.2.2.2.2
theorem dAb_53 : fdq cX1_digest 6 (.iload_n 3) 1 = true ∧ fdq cX1_digest 7 (.iconst 3) 1 = true ∧ fdq cX1_digest 8 (.if_icmp .gt 20) 3 = true ∧ fdq cX1_digest 11 (.lload_n 1) 1 = true ∧ fdq cX1_digest 12 (.aload_n 0) 1 = true ∧ fdq cX1_digest 13 (.iload_n 3) 1 = true ∧ fdq cX1_digest 14 (.invokevirtual 170) 3 = true ∧ fdq cX1_digest 17 (.i2l) 1 = true ∧ fdq cX1_digest 18 (.invokestatic 173) 3 = true ∧ fdq cX1_digest 21 (.lstore_n 1) 1 = true ∧ fdq cX1_digest 22 (.iinc 3 1) 3 = true ∧ fdq cX1_digest 25 (.goto (-19)) 3 = true ∧ fdq cX1_digest 28 (.iconst 0) 1 = true ∧ fdq cX1_digest 29 (.istore_n 3) 1 = true ∧ fdq cX1_digest 30 (.iload_n 3) 1 = true ∧ fdq cX1_digest 31 (.iconst 3) 1 = true := by decide +kernel
theorem dX1_digest_6 : decode cX1_digest 6 = .ok (.iload_n 3, 1) := fdf dAb_53.1
theorem dX1_digest_7 : decode cX1_digest 7 = .ok (.iconst 3, 1) := fdf dAb_53.2.1
theorem dX1_digest_8 : decode cX1_digest 8 = .ok (.if_icmp .gt 20, 3) := fdf dAb_53.2.2.1
theorem dX1_digest_11 : decode cX1_digest 11 = .ok (.lload_n 1, 1) := fdf dAb_53.2.2.2.1
theorem dX1_digest_12 : decode cX1_digest 12 = .ok (.aload_n 0, 1) := fdf dAb_53.2.2.2.2.1
theorem dX1_digest_13 : decode cX1_digest 13 = .ok (.iload_n 3, 1) := fdf dAb_53.2.2.2.2.2.1
theorem dX1_digest_14 : decode cX1_digest 14 = .ok (.invokevirtual 170, 3) := fdf dAb_53.2.2.2.2.2.2.1
theorem dX1_digest_17 : decode cX1_digest 17 = .ok (.i2l, 1) := fdf dAb_53.2.2.2.2.2.2.2.1
theorem dX1_digest_18 : decode cX1_digest 18 = .ok (.invokestatic 173, 3) := fdf dAb_53.2.2.2.2.2.2.2.2.1
theorem dX1_digest_21 : decode cX1_digest 21 = .ok (.lstore_n 1, 1) := fdf dAb_53.2.2.2.2.2.2.2.2.2.1
theorem dX1_digest_22 : decode cX1_digest 22 = .ok (.iinc 3 1, 3) := fdf dAb_53.2.2.2.2.2.2.2.2.2.2.1
theorem dX1_digest_25 : decode cX1_digest 25 = .ok (.goto (-19), 3) := fdf dAb_53.2.2.2.2.2.2.2.2.2.2.2.1
theorem dX1_digest_28 : decode cX1_digest 28 = .ok (.iconst 0, 1) := fdf dAb_53.2.2.2.2.2.2.2.2.2.2.2.2.1
theorem dX1_digest_29 : decode cX1_digest 29 = .ok (.istore_n 3, 1) := fdf dAb_53.2.2.2.2.2.2.2.2.2.2.2.2.2.1
theorem dX1_digest_30 : decode cX1_digest 30 = .ok (.iload_n 3, 1) := fdf dAb_53.2.2.2.2.2.2.2.2.2.2.2.2.2.2.1
theorem dX1_digest_31 : decode cX1_digest 31 = .ok (.iconst 3, 1) := fdf dAb_53.2.2.2.2.2.2.2.2.2.2.2.2.2.2.2
theorem dAb_54 : fdq cX1_digest 32 (.if_icmp .ge 16) 3 = true ∧ fdq cX1_digest 35 (.aload_n 0) 1 = true ∧ fdq cX1_digest 36 (.lload_n 1) 1 = true ∧ fdq cX1_digest 37 (.iload_n 3) 1 = true ∧ fdq cX1_digest 38 (.invokevirtual 177) 3 = true ∧ fdq cX1_digest 41 (.lstore_n 1) 1 = true ∧ fdq cX1_digest 42 (.iinc 3 1) 3 = true ∧ fdq cX1_digest 45 (.goto (-15)) 3 = true ∧ fdq cX1_digest 48 (.iconst 0) 1 = true ∧ fdq cX1_digest 49 (.istore_n 3) 1 = true ∧ fdq cX1_digest 50 (.iload_n 3) 1 = true ∧ fdq cX1_digest 51 (.bipush 7) 2 = true ∧ fdq cX1_digest 53 (.if_icmp .ge 16) 3 = true ∧ fdq cX1_digest 56 (.aload_n 0) 1 = true ∧ fdq cX1_digest 57 (.lload_n 1) 1 = true ∧ fdq cX1_digest 58 (.iload_n 3) 1 = true := by decide +kernel
theorem dX1_digest_32 : decode cX1_digest 32 = .ok (.if_icmp .ge 16, 3) := fdf dAb_54.1
theorem dX1_digest_35 : decode cX1_digest 35 = .ok (.aload_n 0, 1) := fdf dAb_54.2.1
theorem dX1_digest_36 : decode cX1_digest 36 = .ok (.lload_n 1, 1) := fdf dAb_54.2.2.1
theorem dX1_digest_37 : decode cX1_digest 37 = .ok (.iload_n 3, 1) := fdf dAb_54.2.2.2.1
theorem dX1_digest_38 : decode cX1_digest 38 = .ok (.invokevirtual 177, 3) := fdf dAb_54.2.2.2.2.1
theorem dX1_digest_41 : decode cX1_digest 41 = .ok (.lstore_n 1, 1) := fdf dAb_54.2.2.2.2.2.1
theorem dX1_digest_42 : decode cX1_digest 42 = .ok (.iinc 3 1, 3) := fdf dAb_54.2.2.2.2.2.2.1
theorem dX1_digest_45 : decode cX1_digest 45 = .ok (.goto (-15), 3) := fdf dAb_54.2.2.2.2.2.2.2.1
theorem dX1_digest_48 : decode cX1_digest 48 = .ok (.iconst 0, 1) := fdf dAb_54.2.2.2.2.2.2.2.2.1
theorem dX1_digest_49 : decode cX1_digest 49 = .ok (.istore_n 3, 1) := fdf dAb_54.2.2.2.2.2.2.2.2.2.1
theorem dX1_digest_50 : decode cX1_digest 50 = .ok (.iload_n 3, 1) := fdf dAb_54.2.2.2.2.2.2.2.2.2.2.1
theorem dX1_digest_51 : decode cX1_digest 51 = .ok (.bipush 7, 2) := fdf dAb_54.2.2.2.2.2.2.2.2.2.2.2.1
theorem dX1_digest_53 : decode cX1_digest 53 = .ok (.if_icmp .ge 16, 3) := fdf dAb_54.2.2.2.2.2.2.2.2.2.2.2.2.1
theorem dX1_digest_56 : decode cX1_digest 56 = .ok (.aload_n 0, 1) := fdf dAb_54.2.2.2.2.2.2.2.2.2.2.2.2.2.1
theorem dX1_digest_57 : decode cX1_digest 57 = .ok (.lload_n 1, 1) := fdf dAb_54.2.2.2.2.2.2.2.2.2.2.2.2.2.2.1
theorem dX1_digest_58 : decode cX1_digest 58 = .ok (.iload_n 3, 1) := fdf dAb_54.2.2.2.2.2.2.2.2.2.2.2.2.2.2.2
theorem dAb_55 : fdq cX1_digest 59 (.invokevirtual 181) 3 = true ∧ fdq cX1_digest 62 (.lstore_n 1) 1 = true ∧ fdq cX1_digest 63 (.iinc 3 1) 3 = true ∧ fdq cX1_digest 66 (.goto (-16)) 3 = true ∧ fdq cX1_digest 69 (.lload_n 1) 1 = true ∧ fdq cX1_digest 70 (.aload_n 0) 1 = true ∧ fdq cX1_digest 71 (.invokevirtual 184) 3 = true ∧ fdq cX1_digest 74 (.ifCond .eq 7) 3 = true ∧ fdq cX1_digest 77 (.lconst 1) 1 = true ∧ fdq cX1_digest 78 (.goto 4) 3 = true ∧ fdq cX1_digest 81 (.lconst 0) 1 = true ∧ fdq cX1_digest 82 (.invokestatic 173) 3 = true ∧ fdq cX1_digest 85 (.lreturn) 1 = true ∧ fdq cX1_listOrNull 0 (.iload_n 1) 1 = true ∧ fdq cX1_listOrNull 1 (.ifCond .lt 21) 3 = true ∧ fdq cX1_listOrNull 4 (.iload_n 1) 1 = true := by decide +kernel
theorem dX1_digest_59 : decode cX1_digest 59 = .ok (.invokevirtual 181, 3) := fdf dAb_55.1
theorem dX1_digest_62 : decode cX1_digest 62 = .ok (.lstore_n 1, 1) := fdf dAb_55.2.1
theorem dX1_digest_63 : decode cX1_digest 63 = .ok (.iinc 3 1, 3) := fdf dAb_55.2.2.1
theorem dX1_digest_66 : decode cX1_digest 66 = .ok (.goto (-16), 3) := fdf dAb_55.2.2.2.1
theorem dX1_digest_69 : decode cX1_digest 69 = .ok (.lload_n 1, 1) := fdf dAb_55.2.2.2.2.1
theorem dX1_digest_70 : decode cX1_digest 70 = .ok (.aload_n 0, 1) := fdf dAb_55.2.2.2.2.2.1
theorem dX1_digest_71 : decode cX1_digest 71 = .ok (.invokevirtual 184, 3) := fdf dAb_55.2.2.2.2.2.2.1
theorem dX1_digest_74 : decode cX1_digest 74 = .ok (.ifCond .eq 7, 3) := fdf dAb_55.2.2.2.2.2.2.2.1
theorem dX1_digest_77 : decode cX1_digest 77 = .ok (.lconst 1, 1) := fdf dAb_55.2.2.2.2.2.2.2.2.1
theorem dX1_digest_78 : decode cX1_digest 78 = .ok (.goto 4, 3) := fdf dAb_55.2.2.2.2.2.2.2.2.2.1
theorem dX1_digest_81 : decode cX1_digest 81 = .ok (.lconst 0, 1) := fdf dAb_55.2.2.2.2.2.2.2.2.2.2.1
theorem dX1_digest_82 : decode cX1_digest 82 = .ok (.invokestatic 173, 3) := fdf dAb_55.2.2.2.2.2.2.2.2.2.2.2.1
theorem dX1_digest_85 : decode cX1_digest 85 = .ok (.lreturn, 1) := fdf dAb_55.2.2.2.2.2.2.2.2.2.2.2.2.1
theorem dX1_listOrNull_0 : decode cX1_listOrNull 0 = .ok (.iload_n 1, 1) := fdf dAb_55.2.2.2.2.2.2.2.2.2.2.2.2.2.1
theorem dX1_listOrNull_1 : decode cX1_listOrNull 1 = .ok (.ifCond .lt 21, 3) := fdf dAb_55.2.2.2.2.2.2.2.2.2.2.2.2.2.2.1
theorem dX1_listOrNull_4 : decode cX1_listOrNull 4 = .ok (.iload_n 1, 1) := fdf dAb_55.2.2.2.2.2.2.2.2.2.2.2.2.2.2.2
theorem dAb_56 : fdq cX1_listOrNull 5 (.aload_n 0) 1 = true ∧ fdq cX1_listOrNull 6 (.getfield 11) 3 = true ∧ fdq cX1_listOrNull 9 (.arraylength) 1 = true ∧ fdq cX1_listOrNull 10 (.if_icmp .ge 12) 3 = true ∧ fdq cX1_listOrNull 13 (.aload_n 0) 1 = true ∧ fdq cX1_listOrNull 14 (.getfield 11) 3 = true ∧ fdq cX1_listOrNull 17 (.iload_n 1) 1 = true ∧ fdq cX1_listOrNull 18 (.aaload) 1 = true ∧ fdq cX1_listOrNull 19 (.goto 4) 3 = true ∧ fdq cX1_listOrNull 22 (.aconst_null) 1 = true ∧ fdq cX1_listOrNull 23 (.areturn) 1 = true ∧ fdq cX1_listAt 0 (.aload_n 0) 1 = true ∧ fdq cX1_listAt 1 (.iload_n 1) 1 = true ∧ fdq cX1_listAt 2 (.invokevirtual 155) 3 = true ∧ fdq cX1_listAt 5 (.astore_n 2) 1 = true ∧ fdq cX1_listAt 6 (.aload_n 2) 1 = true := by decide +kernel
theorem dX1_listOrNull_5 : decode cX1_listOrNull 5 = .ok (.aload_n 0, 1) := fdf dAb_56.1
theorem dX1_listOrNull_6 : decode cX1_listOrNull 6 = .ok (.getfield 11, 3) := fdf dAb_56.2.1
theorem dX1_listOrNull_9 : decode cX1_listOrNull 9 = .ok (.arraylength, 1) := fdf dAb_56.2.2.1
theorem dX1_listOrNull_10 : decode cX1_listOrNull 10 = .ok (.if_icmp .ge 12, 3) := fdf dAb_56.2.2.2.1
theorem dX1_listOrNull_13 : decode cX1_listOrNull 13 = .ok (.aload_n 0, 1) := fdf dAb_56.2.2.2.2.1
theorem dX1_listOrNull_14 : decode cX1_listOrNull 14 = .ok (.getfield 11, 3) := fdf dAb_56.2.2.2.2.2.1
theorem dX1_listOrNull_17 : decode cX1_listOrNull 17 = .ok (.iload_n 1, 1) := fdf dAb_56.2.2.2.2.2.2.1
theorem dX1_listOrNull_18 : decode cX1_listOrNull 18 = .ok (.aaload, 1) := fdf dAb_56.2.2.2.2.2.2.2.1
theorem dX1_listOrNull_19 : decode cX1_listOrNull 19 = .ok (.goto 4, 3) := fdf dAb_56.2.2.2.2.2.2.2.2.1
theorem dX1_listOrNull_22 : decode cX1_listOrNull 22 = .ok (.aconst_null, 1) := fdf dAb_56.2.2.2.2.2.2.2.2.2.1
theorem dX1_listOrNull_23 : decode cX1_listOrNull 23 = .ok (.areturn, 1) := fdf dAb_56.2.2.2.2.2.2.2.2.2.2.1
theorem dX1_listAt_0 : decode cX1_listAt 0 = .ok (.aload_n 0, 1) := fdf dAb_56.2.2.2.2.2.2.2.2.2.2.2.1
theorem dX1_listAt_1 : decode cX1_listAt 1 = .ok (.iload_n 1, 1) := fdf dAb_56.2.2.2.2.2.2.2.2.2.2.2.2.1
theorem dX1_listAt_2 : decode cX1_listAt 2 = .ok (.invokevirtual 155, 3) := fdf dAb_56.2.2.2.2.2.2.2.2.2.2.2.2.2.1
theorem dX1_listAt_5 : decode cX1_listAt 5 = .ok (.astore_n 2, 1) := fdf dAb_56.2.2.2.2.2.2.2.2.2.2.2.2.2.2.1
theorem dX1_listAt_6 : decode cX1_listAt 6 = .ok (.aload_n 2, 1) := fdf dAb_56.2.2.2.2.2.2.2.2.2.2.2.2.2.2.2
theorem dAb_57 : fdq cX1_listAt 7 (.ifnonnull 13) 3 = true ∧ fdq cX1_listAt 10 (.new 188) 3 = true ∧ fdq cX1_listAt 13 (.dup) 1 = true ∧ fdq cX1_listAt 14 (.ldc 190) 2 = true ∧ fdq cX1_listAt 16 (.invokespecial 192) 3 = true ∧ fdq cX1_listAt 19 (.athrow) 1 = true ∧ fdq cX1_listAt 20 (.aload_n 2) 1 = true ∧ fdq cX1_listAt 21 (.areturn) 1 = true ∧ fdq cX1_twinAt 0 (.iload_n 1) 1 = true ∧ fdq cX1_twinAt 1 (.iconst 3) 1 = true ∧ fdq cX1_twinAt 2 (.if_icmp .ge 11) 3 = true ∧ fdq cX1_twinAt 5 (.aload_n 0) 1 = true ∧ fdq cX1_twinAt 6 (.iload_n 1) 1 = true ∧ fdq cX1_twinAt 7 (.invokevirtual 155) 3 = true ∧ fdq cX1_twinAt 10 (.goto 4) 3 = true ∧ fdq cX1_twinAt 13 (.aconst_null) 1 = true := by decide +kernel
theorem dX1_listAt_7 : decode cX1_listAt 7 = .ok (.ifnonnull 13, 3) := fdf dAb_57.1
theorem dX1_listAt_10 : decode cX1_listAt 10 = .ok (.new 188, 3) := fdf dAb_57.2.1
theorem dX1_listAt_13 : decode cX1_listAt 13 = .ok (.dup, 1) := fdf dAb_57.2.2.1
theorem dX1_listAt_14 : decode cX1_listAt 14 = .ok (.ldc 190, 2) := fdf dAb_57.2.2.2.1
theorem dX1_listAt_16 : decode cX1_listAt 16 = .ok (.invokespecial 192, 3) := fdf dAb_57.2.2.2.2.1
theorem dX1_listAt_19 : decode cX1_listAt 19 = .ok (.athrow, 1) := fdf dAb_57.2.2.2.2.2.1
theorem dX1_listAt_20 : decode cX1_listAt 20 = .ok (.aload_n 2, 1) := fdf dAb_57.2.2.2.2.2.2.1
theorem dX1_listAt_21 : decode cX1_listAt 21 = .ok (.areturn, 1) := fdf dAb_57.2.2.2.2.2.2.2.1
theorem dX1_twinAt_0 : decode cX1_twinAt 0 = .ok (.iload_n 1, 1) := fdf dAb_57.2.2.2.2.2.2.2.2.1
theorem dX1_twinAt_1 : decode cX1_twinAt 1 = .ok (.iconst 3, 1) := fdf dAb_57.2.2.2.2.2.2.2.2.2.1
theorem dX1_twinAt_2 : decode cX1_twinAt 2 = .ok (.if_icmp .ge 11, 3) := fdf dAb_57.2.2.2.2.2.2.2.2.2.2.1
theorem dX1_twinAt_5 : decode cX1_twinAt 5 = .ok (.aload_n 0, 1) := fdf dAb_57.2.2.2.2.2.2.2.2.2.2.2.1
theorem dX1_twinAt_6 : decode cX1_twinAt 6 = .ok (.iload_n 1, 1) := fdf dAb_57.2.2.2.2.2.2.2.2.2.2.2.2.1
theorem dX1_twinAt_7 : decode cX1_twinAt 7 = .ok (.invokevirtual 155, 3) := fdf dAb_57.2.2.2.2.2.2.2.2.2.2.2.2.2.1
theorem dX1_twinAt_10 : decode cX1_twinAt 10 = .ok (.goto 4, 3) := fdf dAb_57.2.2.2.2.2.2.2.2.2.2.2.2.2.2.1
theorem dX1_twinAt_13 : decode cX1_twinAt 13 = .ok (.aconst_null, 1) := fdf dAb_57.2.2.2.2.2.2.2.2.2.2.2.2.2.2.2
theorem dAb_58 : fdq cX1_twinAt 14 (.astore_n 2) 1 = true ∧ fdq cX1_twinAt 15 (.aload_n 2) 1 = true ∧ fdq cX1_twinAt 16 (.ifnonnull 13) 3 = true ∧ fdq cX1_twinAt 19 (.new 188) 3 = true ∧ fdq cX1_twinAt 22 (.dup) 1 = true ∧ fdq cX1_twinAt 23 (.ldc 195) 2 = true ∧ fdq cX1_twinAt 25 (.invokespecial 192) 3 = true ∧ fdq cX1_twinAt 28 (.athrow) 1 = true ∧ fdq cX1_twinAt 29 (.aload_n 2) 1 = true ∧ fdq cX1_twinAt 30 (.areturn) 1 = true ∧ fdq cX1_dropPartsOf 0 (.iconst 0) 1 = true ∧ fdq cX1_dropPartsOf 1 (.istore_n 2) 1 = true ∧ fdq cX1_dropPartsOf 2 (.iconst 3) 1 = true ∧ fdq cX1_dropPartsOf 3 (.istore_n 3) 1 = true ∧ fdq cX1_dropPartsOf 4 (.iload_n 3) 1 = true ∧ fdq cX1_dropPartsOf 5 (.aload_n 0) 1 = true := by decide +kernel
theorem dX1_twinAt_14 : decode cX1_twinAt 14 = .ok (.astore_n 2, 1) := fdf dAb_58.1
theorem dX1_twinAt_15 : decode cX1_twinAt 15 = .ok (.aload_n 2, 1) := fdf dAb_58.2.1
theorem dX1_twinAt_16 : decode cX1_twinAt 16 = .ok (.ifnonnull 13, 3) := fdf dAb_58.2.2.1
theorem dX1_twinAt_19 : decode cX1_twinAt 19 = .ok (.new 188, 3) := fdf dAb_58.2.2.2.1
theorem dX1_twinAt_22 : decode cX1_twinAt 22 = .ok (.dup, 1) := fdf dAb_58.2.2.2.2.1
theorem dX1_twinAt_23 : decode cX1_twinAt 23 = .ok (.ldc 195, 2) := fdf dAb_58.2.2.2.2.2.1
theorem dX1_twinAt_25 : decode cX1_twinAt 25 = .ok (.invokespecial 192, 3) := fdf dAb_58.2.2.2.2.2.2.1
theorem dX1_twinAt_28 : decode cX1_twinAt 28 = .ok (.athrow, 1) := fdf dAb_58.2.2.2.2.2.2.2.1
theorem dX1_twinAt_29 : decode cX1_twinAt 29 = .ok (.aload_n 2, 1) := fdf dAb_58.2.2.2.2.2.2.2.2.1
theorem dX1_twinAt_30 : decode cX1_twinAt 30 = .ok (.areturn, 1) := fdf dAb_58.2.2.2.2.2.2.2.2.2.1
theorem dX1_dropPartsOf_0 : decode cX1_dropPartsOf 0 = .ok (.iconst 0, 1) := fdf dAb_58.2.2.2.2.2.2.2.2.2.2.1
theorem dX1_dropPartsOf_1 : decode cX1_dropPartsOf 1 = .ok (.istore_n 2, 1) := fdf dAb_58.2.2.2.2.2.2.2.2.2.2.2.1
theorem dX1_dropPartsOf_2 : decode cX1_dropPartsOf 2 = .ok (.iconst 3, 1) := fdf dAb_58.2.2.2.2.2.2.2.2.2.2.2.2.1
theorem dX1_dropPartsOf_3 : decode cX1_dropPartsOf 3 = .ok (.istore_n 3, 1) := fdf dAb_58.2.2.2.2.2.2.2.2.2.2.2.2.2.1
theorem dX1_dropPartsOf_4 : decode cX1_dropPartsOf 4 = .ok (.iload_n 3, 1) := fdf dAb_58.2.2.2.2.2.2.2.2.2.2.2.2.2.2.1
theorem dX1_dropPartsOf_5 : decode cX1_dropPartsOf 5 = .ok (.aload_n 0, 1) := fdf dAb_58.2.2.2.2.2.2.2.2.2.2.2.2.2.2.2
theorem dAb_59 : fdq cX1_dropPartsOf 6 (.getfield 11) 3 = true ∧ fdq cX1_dropPartsOf 9 (.arraylength) 1 = true ∧ fdq cX1_dropPartsOf 10 (.if_icmp .ge 41) 3 = true ∧ fdq cX1_dropPartsOf 13 (.aload_n 0) 1 = true ∧ fdq cX1_dropPartsOf 14 (.getfield 11) 3 = true ∧ fdq cX1_dropPartsOf 17 (.iload_n 3) 1 = true ∧ fdq cX1_dropPartsOf 18 (.aaload) 1 = true ∧ fdq cX1_dropPartsOf 19 (.astore 4) 2 = true ∧ fdq cX1_dropPartsOf 21 (.aload 4) 2 = true ∧ fdq cX1_dropPartsOf 23 (.ifnull 22) 3 = true ∧ fdq cX1_dropPartsOf 26 (.aload 4) 2 = true ∧ fdq cX1_dropPartsOf 28 (.getfield 158) 3 = true ∧ fdq cX1_dropPartsOf 31 (.iload_n 1) 1 = true ∧ fdq cX1_dropPartsOf 32 (.if_icmp .ne 13) 3 = true ∧ fdq cX1_dropPartsOf 35 (.aload_n 0) 1 = true ∧ fdq cX1_dropPartsOf 36 (.getfield 11) 3 = true := by decide +kernel
theorem dX1_dropPartsOf_6 : decode cX1_dropPartsOf 6 = .ok (.getfield 11, 3) := fdf dAb_59.1
theorem dX1_dropPartsOf_9 : decode cX1_dropPartsOf 9 = .ok (.arraylength, 1) := fdf dAb_59.2.1
theorem dX1_dropPartsOf_10 : decode cX1_dropPartsOf 10 = .ok (.if_icmp .ge 41, 3) := fdf dAb_59.2.2.1
theorem dX1_dropPartsOf_13 : decode cX1_dropPartsOf 13 = .ok (.aload_n 0, 1) := fdf dAb_59.2.2.2.1
theorem dX1_dropPartsOf_14 : decode cX1_dropPartsOf 14 = .ok (.getfield 11, 3) := fdf dAb_59.2.2.2.2.1
theorem dX1_dropPartsOf_17 : decode cX1_dropPartsOf 17 = .ok (.iload_n 3, 1) := fdf dAb_59.2.2.2.2.2.1
theorem dX1_dropPartsOf_18 : decode cX1_dropPartsOf 18 = .ok (.aaload, 1) := fdf dAb_59.2.2.2.2.2.2.1
theorem dX1_dropPartsOf_19 : decode cX1_dropPartsOf 19 = .ok (.astore 4, 2) := fdf dAb_59.2.2.2.2.2.2.2.1
theorem dX1_dropPartsOf_21 : decode cX1_dropPartsOf 21 = .ok (.aload 4, 2) := fdf dAb_59.2.2.2.2.2.2.2.2.1
theorem dX1_dropPartsOf_23 : decode cX1_dropPartsOf 23 = .ok (.ifnull 22, 3) := fdf dAb_59.2.2.2.2.2.2.2.2.2.1
theorem dX1_dropPartsOf_26 : decode cX1_dropPartsOf 26 = .ok (.aload 4, 2) := fdf dAb_59.2.2.2.2.2.2.2.2.2.2.1
theorem dX1_dropPartsOf_28 : decode cX1_dropPartsOf 28 = .ok (.getfield 158, 3) := fdf dAb_59.2.2.2.2.2.2.2.2.2.2.2.1
theorem dX1_dropPartsOf_31 : decode cX1_dropPartsOf 31 = .ok (.iload_n 1, 1) := fdf dAb_59.2.2.2.2.2.2.2.2.2.2.2.2.1
theorem dX1_dropPartsOf_32 : decode cX1_dropPartsOf 32 = .ok (.if_icmp .ne 13, 3) := fdf dAb_59.2.2.2.2.2.2.2.2.2.2.2.2.2.1
theorem dX1_dropPartsOf_35 : decode cX1_dropPartsOf 35 = .ok (.aload_n 0, 1) := fdf dAb_59.2.2.2.2.2.2.2.2.2.2.2.2.2.2.1
theorem dX1_dropPartsOf_36 : decode cX1_dropPartsOf 36 = .ok (.getfield 11, 3) := fdf dAb_59.2.2.2.2.2.2.2.2.2.2.2.2.2.2.2
theorem dAb_60 : fdq cX1_dropPartsOf 39 (.iload_n 3) 1 = true ∧ fdq cX1_dropPartsOf 40 (.aconst_null) 1 = true ∧ fdq cX1_dropPartsOf 41 (.aastore) 1 = true ∧ fdq cX1_dropPartsOf 42 (.iinc 2 1) 3 = true ∧ fdq cX1_dropPartsOf 45 (.iinc 3 1) 3 = true ∧ fdq cX1_dropPartsOf 48 (.goto (-44)) 3 = true ∧ fdq cX1_dropPartsOf 51 (.iload_n 2) 1 = true ∧ fdq cX1_dropPartsOf 52 (.ireturn) 1 = true ∧ fdq cX1_partsThere 0 (.iconst 0) 1 = true ∧ fdq cX1_partsThere 1 (.istore_n 1) 1 = true ∧ fdq cX1_partsThere 2 (.iconst 3) 1 = true ∧ fdq cX1_partsThere 3 (.istore_n 2) 1 = true ∧ fdq cX1_partsThere 4 (.iload_n 2) 1 = true ∧ fdq cX1_partsThere 5 (.bipush 7) 2 = true ∧ fdq cX1_partsThere 7 (.if_icmp .ge 25) 3 = true ∧ fdq cX1_partsThere 10 (.iload_n 1) 1 = true := by decide +kernel
theorem dX1_dropPartsOf_39 : decode cX1_dropPartsOf 39 = .ok (.iload_n 3, 1) := fdf dAb_60.1
theorem dX1_dropPartsOf_40 : decode cX1_dropPartsOf 40 = .ok (.aconst_null, 1) := fdf dAb_60.2.1
theorem dX1_dropPartsOf_41 : decode cX1_dropPartsOf 41 = .ok (.aastore, 1) := fdf dAb_60.2.2.1
theorem dX1_dropPartsOf_42 : decode cX1_dropPartsOf 42 = .ok (.iinc 2 1, 3) := fdf dAb_60.2.2.2.1
theorem dX1_dropPartsOf_45 : decode cX1_dropPartsOf 45 = .ok (.iinc 3 1, 3) := fdf dAb_60.2.2.2.2.1
theorem dX1_dropPartsOf_48 : decode cX1_dropPartsOf 48 = .ok (.goto (-44), 3) := fdf dAb_60.2.2.2.2.2.1
theorem dX1_dropPartsOf_51 : decode cX1_dropPartsOf 51 = .ok (.iload_n 2, 1) := fdf dAb_60.2.2.2.2.2.2.1
theorem dX1_dropPartsOf_52 : decode cX1_dropPartsOf 52 = .ok (.ireturn, 1) := fdf dAb_60.2.2.2.2.2.2.2.1
theorem dX1_partsThere_0 : decode cX1_partsThere 0 = .ok (.iconst 0, 1) := fdf dAb_60.2.2.2.2.2.2.2.2.1
theorem dX1_partsThere_1 : decode cX1_partsThere 1 = .ok (.istore_n 1, 1) := fdf dAb_60.2.2.2.2.2.2.2.2.2.1
theorem dX1_partsThere_2 : decode cX1_partsThere 2 = .ok (.iconst 3, 1) := fdf dAb_60.2.2.2.2.2.2.2.2.2.2.1
theorem dX1_partsThere_3 : decode cX1_partsThere 3 = .ok (.istore_n 2, 1) := fdf dAb_60.2.2.2.2.2.2.2.2.2.2.2.1
theorem dX1_partsThere_4 : decode cX1_partsThere 4 = .ok (.iload_n 2, 1) := fdf dAb_60.2.2.2.2.2.2.2.2.2.2.2.2.1
theorem dX1_partsThere_5 : decode cX1_partsThere 5 = .ok (.bipush 7, 2) := fdf dAb_60.2.2.2.2.2.2.2.2.2.2.2.2.2.1
theorem dX1_partsThere_7 : decode cX1_partsThere 7 = .ok (.if_icmp .ge 25, 3) := fdf dAb_60.2.2.2.2.2.2.2.2.2.2.2.2.2.2.1
theorem dX1_partsThere_10 : decode cX1_partsThere 10 = .ok (.iload_n 1, 1) := fdf dAb_60.2.2.2.2.2.2.2.2.2.2.2.2.2.2.2
theorem dAb_61 : fdq cX1_partsThere 11 (.aload_n 0) 1 = true ∧ fdq cX1_partsThere 12 (.iload_n 2) 1 = true ∧ fdq cX1_partsThere 13 (.invokevirtual 155) 3 = true ∧ fdq cX1_partsThere 16 (.ifnonnull 7) 3 = true ∧ fdq cX1_partsThere 19 (.iconst 0) 1 = true ∧ fdq cX1_partsThere 20 (.goto 4) 3 = true ∧ fdq cX1_partsThere 23 (.iconst 1) 1 = true ∧ fdq cX1_partsThere 24 (.iadd) 1 = true ∧ fdq cX1_partsThere 25 (.istore_n 1) 1 = true ∧ fdq cX1_partsThere 26 (.iinc 2 1) 3 = true ∧ fdq cX1_partsThere 29 (.goto (-25)) 3 = true ∧ fdq cX1_partsThere 32 (.iload_n 1) 1 = true ∧ fdq cX1_partsThere 33 (.ireturn) 1 = true ∧ fdq cX1_placesOfRows 0 (.iconst 0) 1 = true ∧ fdq cX1_placesOfRows 1 (.istore_n 1) 1 = true ∧ fdq cX1_placesOfRows 2 (.iconst 0) 1 = true := by decide +kernel
theorem dX1_partsThere_11 : decode cX1_partsThere 11 = .ok (.aload_n 0, 1) := fdf dAb_61.1
theorem dX1_partsThere_12 : decode cX1_partsThere 12 = .ok (.iload_n 2, 1) := fdf dAb_61.2.1
theorem dX1_partsThere_13 : decode cX1_partsThere 13 = .ok (.invokevirtual 155, 3) := fdf dAb_61.2.2.1
theorem dX1_partsThere_16 : decode cX1_partsThere 16 = .ok (.ifnonnull 7, 3) := fdf dAb_61.2.2.2.1
theorem dX1_partsThere_19 : decode cX1_partsThere 19 = .ok (.iconst 0, 1) := fdf dAb_61.2.2.2.2.1
theorem dX1_partsThere_20 : decode cX1_partsThere 20 = .ok (.goto 4, 3) := fdf dAb_61.2.2.2.2.2.1
theorem dX1_partsThere_23 : decode cX1_partsThere 23 = .ok (.iconst 1, 1) := fdf dAb_61.2.2.2.2.2.2.1
theorem dX1_partsThere_24 : decode cX1_partsThere 24 = .ok (.iadd, 1) := fdf dAb_61.2.2.2.2.2.2.2.1
theorem dX1_partsThere_25 : decode cX1_partsThere 25 = .ok (.istore_n 1, 1) := fdf dAb_61.2.2.2.2.2.2.2.2.1
theorem dX1_partsThere_26 : decode cX1_partsThere 26 = .ok (.iinc 2 1, 3) := fdf dAb_61.2.2.2.2.2.2.2.2.2.1
theorem dX1_partsThere_29 : decode cX1_partsThere 29 = .ok (.goto (-25), 3) := fdf dAb_61.2.2.2.2.2.2.2.2.2.2.1
theorem dX1_partsThere_32 : decode cX1_partsThere 32 = .ok (.iload_n 1, 1) := fdf dAb_61.2.2.2.2.2.2.2.2.2.2.2.1
theorem dX1_partsThere_33 : decode cX1_partsThere 33 = .ok (.ireturn, 1) := fdf dAb_61.2.2.2.2.2.2.2.2.2.2.2.2.1
theorem dX1_placesOfRows_0 : decode cX1_placesOfRows 0 = .ok (.iconst 0, 1) := fdf dAb_61.2.2.2.2.2.2.2.2.2.2.2.2.2.1
theorem dX1_placesOfRows_1 : decode cX1_placesOfRows 1 = .ok (.istore_n 1, 1) := fdf dAb_61.2.2.2.2.2.2.2.2.2.2.2.2.2.2.1
theorem dX1_placesOfRows_2 : decode cX1_placesOfRows 2 = .ok (.iconst 0, 1) := fdf dAb_61.2.2.2.2.2.2.2.2.2.2.2.2.2.2.2
theorem dAb_62 : fdq cX1_placesOfRows 3 (.istore_n 2) 1 = true ∧ fdq cX1_placesOfRows 4 (.iload_n 2) 1 = true ∧ fdq cX1_placesOfRows 5 (.iconst 3) 1 = true ∧ fdq cX1_placesOfRows 6 (.if_icmp .ge 20) 3 = true ∧ fdq cX1_placesOfRows 9 (.iload_n 1) 1 = true ∧ fdq cX1_placesOfRows 10 (.aload_n 0) 1 = true ∧ fdq cX1_placesOfRows 11 (.iload_n 2) 1 = true ∧ fdq cX1_placesOfRows 12 (.invokevirtual 29) 3 = true ∧ fdq cX1_placesOfRows 15 (.getfield 68) 3 = true ∧ fdq cX1_placesOfRows 18 (.iadd) 1 = true ∧ fdq cX1_placesOfRows 19 (.istore_n 1) 1 = true ∧ fdq cX1_placesOfRows 20 (.iinc 2 1) 3 = true ∧ fdq cX1_placesOfRows 23 (.goto (-19)) 3 = true ∧ fdq cX1_placesOfRows 26 (.iload_n 1) 1 = true ∧ fdq cX1_placesOfRows 27 (.ireturn) 1 = true ∧ fdq cX1_checkPart 0 (.iload_n 0) 1 = true := by decide +kernel
theorem dX1_placesOfRows_3 : decode cX1_placesOfRows 3 = .ok (.istore_n 2, 1) := fdf dAb_62.1
theorem dX1_placesOfRows_4 : decode cX1_placesOfRows 4 = .ok (.iload_n 2, 1) := fdf dAb_62.2.1
theorem dX1_placesOfRows_5 : decode cX1_placesOfRows 5 = .ok (.iconst 3, 1) := fdf dAb_62.2.2.1
theorem dX1_placesOfRows_6 : decode cX1_placesOfRows 6 = .ok (.if_icmp .ge 20, 3) := fdf dAb_62.2.2.2.1
theorem dX1_placesOfRows_9 : decode cX1_placesOfRows 9 = .ok (.iload_n 1, 1) := fdf dAb_62.2.2.2.2.1
theorem dX1_placesOfRows_10 : decode cX1_placesOfRows 10 = .ok (.aload_n 0, 1) := fdf dAb_62.2.2.2.2.2.1
theorem dX1_placesOfRows_11 : decode cX1_placesOfRows 11 = .ok (.iload_n 2, 1) := fdf dAb_62.2.2.2.2.2.2.1
theorem dX1_placesOfRows_12 : decode cX1_placesOfRows 12 = .ok (.invokevirtual 29, 3) := fdf dAb_62.2.2.2.2.2.2.2.1
theorem dX1_placesOfRows_15 : decode cX1_placesOfRows 15 = .ok (.getfield 68, 3) := fdf dAb_62.2.2.2.2.2.2.2.2.1
theorem dX1_placesOfRows_18 : decode cX1_placesOfRows 18 = .ok (.iadd, 1) := fdf dAb_62.2.2.2.2.2.2.2.2.2.1
theorem dX1_placesOfRows_19 : decode cX1_placesOfRows 19 = .ok (.istore_n 1, 1) := fdf dAb_62.2.2.2.2.2.2.2.2.2.2.1
theorem dX1_placesOfRows_20 : decode cX1_placesOfRows 20 = .ok (.iinc 2 1, 3) := fdf dAb_62.2.2.2.2.2.2.2.2.2.2.2.1
theorem dX1_placesOfRows_23 : decode cX1_placesOfRows 23 = .ok (.goto (-19), 3) := fdf dAb_62.2.2.2.2.2.2.2.2.2.2.2.2.1
theorem dX1_placesOfRows_26 : decode cX1_placesOfRows 26 = .ok (.iload_n 1, 1) := fdf dAb_62.2.2.2.2.2.2.2.2.2.2.2.2.2.1
theorem dX1_placesOfRows_27 : decode cX1_placesOfRows 27 = .ok (.ireturn, 1) := fdf dAb_62.2.2.2.2.2.2.2.2.2.2.2.2.2.2.1
theorem dX1_checkPart_0 : decode cX1_checkPart 0 = .ok (.iload_n 0, 1) := fdf dAb_62.2.2.2.2.2.2.2.2.2.2.2.2.2.2.2
theorem dAb_63 : fdq cX1_checkPart 1 (.iconst 3) 1 = true ∧ fdq cX1_checkPart 2 (.if_icmp .lt 9) 3 = true ∧ fdq cX1_checkPart 5 (.iload_n 0) 1 = true ∧ fdq cX1_checkPart 6 (.bipush 7) 2 = true ∧ fdq cX1_checkPart 8 (.if_icmp .lt 13) 3 = true ∧ fdq cX1_checkPart 11 (.new 188) 3 = true ∧ fdq cX1_checkPart 14 (.dup) 1 = true ∧ fdq cX1_checkPart 15 (.ldc 197) 2 = true ∧ fdq cX1_checkPart 17 (.invokespecial 192) 3 = true ∧ fdq cX1_checkPart 20 (.athrow) 1 = true ∧ fdq cX1_checkPart 21 (.return_) 1 = true ∧ fdq cX1_checkPlace 0 (.aload_n 0) 1 = true ∧ fdq cX1_checkPlace 1 (.iload_n 1) 1 = true ∧ fdq cX1_checkPlace 2 (.invokevirtual 199) 3 = true ∧ fdq cX1_checkPlace 5 (.ifCond .ne 13) 3 = true ∧ fdq cX1_checkPlace 8 (.new 188) 3 = true := by decide +kernel
theorem dX1_checkPart_1 : decode cX1_checkPart 1 = .ok (.iconst 3, 1) := fdf dAb_63.1
theorem dX1_checkPart_2 : decode cX1_checkPart 2 = .ok (.if_icmp .lt 9, 3) := fdf dAb_63.2.1
theorem dX1_checkPart_5 : decode cX1_checkPart 5 = .ok (.iload_n 0, 1) := fdf dAb_63.2.2.1
theorem dX1_checkPart_6 : decode cX1_checkPart 6 = .ok (.bipush 7, 2) := fdf dAb_63.2.2.2.1
theorem dX1_checkPart_8 : decode cX1_checkPart 8 = .ok (.if_icmp .lt 13, 3) := fdf dAb_63.2.2.2.2.1
theorem dX1_checkPart_11 : decode cX1_checkPart 11 = .ok (.new 188, 3) := fdf dAb_63.2.2.2.2.2.1
theorem dX1_checkPart_14 : decode cX1_checkPart 14 = .ok (.dup, 1) := fdf dAb_63.2.2.2.2.2.2.1
theorem dX1_checkPart_15 : decode cX1_checkPart 15 = .ok (.ldc 197, 2) := fdf dAb_63.2.2.2.2.2.2.2.1
theorem dX1_checkPart_17 : decode cX1_checkPart 17 = .ok (.invokespecial 192, 3) := fdf dAb_63.2.2.2.2.2.2.2.2.1
theorem dX1_checkPart_20 : decode cX1_checkPart 20 = .ok (.athrow, 1) := fdf dAb_63.2.2.2.2.2.2.2.2.2.1
theorem dX1_checkPart_21 : decode cX1_checkPart 21 = .ok (.return_, 1) := fdf dAb_63.2.2.2.2.2.2.2.2.2.2.1
theorem dX1_checkPlace_0 : decode cX1_checkPlace 0 = .ok (.aload_n 0, 1) := fdf dAb_63.2.2.2.2.2.2.2.2.2.2.2.1
theorem dX1_checkPlace_1 : decode cX1_checkPlace 1 = .ok (.iload_n 1, 1) := fdf dAb_63.2.2.2.2.2.2.2.2.2.2.2.2.1
theorem dX1_checkPlace_2 : decode cX1_checkPlace 2 = .ok (.invokevirtual 199, 3) := fdf dAb_63.2.2.2.2.2.2.2.2.2.2.2.2.2.1
theorem dX1_checkPlace_5 : decode cX1_checkPlace 5 = .ok (.ifCond .ne 13, 3) := fdf dAb_63.2.2.2.2.2.2.2.2.2.2.2.2.2.2.1
theorem dX1_checkPlace_8 : decode cX1_checkPlace 8 = .ok (.new 188, 3) := fdf dAb_63.2.2.2.2.2.2.2.2.2.2.2.2.2.2.2
theorem dAb_64 : fdq cX1_checkPlace 11 (.dup) 1 = true ∧ fdq cX1_checkPlace 12 (.ldc 203) 2 = true ∧ fdq cX1_checkPlace 14 (.invokespecial 192) 3 = true ∧ fdq cX1_checkPlace 17 (.athrow) 1 = true ∧ fdq cX1_checkPlace 18 (.return_) 1 = true ∧ fdq cX1_checkNumber 0 (.iload_n 0) 1 = true ∧ fdq cX1_checkNumber 1 (.iload_n 1) 1 = true ∧ fdq cX1_checkNumber 2 (.if_icmp .lt 8) 3 = true ∧ fdq cX1_checkNumber 5 (.iload_n 0) 1 = true ∧ fdq cX1_checkNumber 6 (.iload_n 2) 1 = true ∧ fdq cX1_checkNumber 7 (.if_icmp .le 13) 3 = true ∧ fdq cX1_checkNumber 10 (.new 205) 3 = true ∧ fdq cX1_checkNumber 13 (.dup) 1 = true ∧ fdq cX1_checkNumber 14 (.ldc 207) 2 = true ∧ fdq cX1_checkNumber 16 (.invokespecial 209) 3 = true ∧ fdq cX1_checkNumber 19 (.athrow) 1 = true := by decide +kernel
theorem dX1_checkPlace_11 : decode cX1_checkPlace 11 = .ok (.dup, 1) := fdf dAb_64.1
theorem dX1_checkPlace_12 : decode cX1_checkPlace 12 = .ok (.ldc 203, 2) := fdf dAb_64.2.1
theorem dX1_checkPlace_14 : decode cX1_checkPlace 14 = .ok (.invokespecial 192, 3) := fdf dAb_64.2.2.1
theorem dX1_checkPlace_17 : decode cX1_checkPlace 17 = .ok (.athrow, 1) := fdf dAb_64.2.2.2.1
theorem dX1_checkPlace_18 : decode cX1_checkPlace 18 = .ok (.return_, 1) := fdf dAb_64.2.2.2.2.1
theorem dX1_checkNumber_0 : decode cX1_checkNumber 0 = .ok (.iload_n 0, 1) := fdf dAb_64.2.2.2.2.2.1
theorem dX1_checkNumber_1 : decode cX1_checkNumber 1 = .ok (.iload_n 1, 1) := fdf dAb_64.2.2.2.2.2.2.1
theorem dX1_checkNumber_2 : decode cX1_checkNumber 2 = .ok (.if_icmp .lt 8, 3) := fdf dAb_64.2.2.2.2.2.2.2.1
theorem dX1_checkNumber_5 : decode cX1_checkNumber 5 = .ok (.iload_n 0, 1) := fdf dAb_64.2.2.2.2.2.2.2.2.1
theorem dX1_checkNumber_6 : decode cX1_checkNumber 6 = .ok (.iload_n 2, 1) := fdf dAb_64.2.2.2.2.2.2.2.2.2.1
theorem dX1_checkNumber_7 : decode cX1_checkNumber 7 = .ok (.if_icmp .le 13, 3) := fdf dAb_64.2.2.2.2.2.2.2.2.2.2.1
theorem dX1_checkNumber_10 : decode cX1_checkNumber 10 = .ok (.new 205, 3) := fdf dAb_64.2.2.2.2.2.2.2.2.2.2.2.1
theorem dX1_checkNumber_13 : decode cX1_checkNumber 13 = .ok (.dup, 1) := fdf dAb_64.2.2.2.2.2.2.2.2.2.2.2.2.1
theorem dX1_checkNumber_14 : decode cX1_checkNumber 14 = .ok (.ldc 207, 2) := fdf dAb_64.2.2.2.2.2.2.2.2.2.2.2.2.2.1
theorem dX1_checkNumber_16 : decode cX1_checkNumber 16 = .ok (.invokespecial 209, 3) := fdf dAb_64.2.2.2.2.2.2.2.2.2.2.2.2.2.2.1
theorem dX1_checkNumber_19 : decode cX1_checkNumber 19 = .ok (.athrow, 1) := fdf dAb_64.2.2.2.2.2.2.2.2.2.2.2.2.2.2.2
theorem dAb_65 : fdq cX1_checkNumber 20 (.return_) 1 = true ∧ fdq cX1_checkValue 0 (.iload_n 0) 1 = true ∧ fdq cX1_checkValue 1 (.sipush (-1000)) 3 = true ∧ fdq cX1_checkValue 4 (.if_icmp .eq 11) 3 = true ∧ fdq cX1_checkValue 7 (.iload_n 0) 1 = true ∧ fdq cX1_checkValue 8 (.bipush (-99)) 2 = true ∧ fdq cX1_checkValue 10 (.bipush 99) 2 = true ∧ fdq cX1_checkValue 12 (.invokestatic 33) 3 = true ∧ fdq cX1_checkValue 15 (.return_) 1 = true ∧ fdq cX1_checkRule 0 (.iload_n 0) 1 = true ∧ fdq cX1_checkRule 1 (.iconst 0) 1 = true ∧ fdq cX1_checkRule 2 (.iconst 3) 1 = true ∧ fdq cX1_checkRule 3 (.invokestatic 33) 3 = true ∧ fdq cX1_checkRule 6 (.iload_n 1) 1 = true ∧ fdq cX1_checkRule 7 (.bipush (-99)) 2 = true ∧ fdq cX1_checkRule 9 (.bipush 99) 2 = true := by decide +kernel
theorem dX1_checkNumber_20 : decode cX1_checkNumber 20 = .ok (.return_, 1) := fdf dAb_65.1
theorem dX1_checkValue_0 : decode cX1_checkValue 0 = .ok (.iload_n 0, 1) := fdf dAb_65.2.1
theorem dX1_checkValue_1 : decode cX1_checkValue 1 = .ok (.sipush (-1000), 3) := fdf dAb_65.2.2.1
theorem dX1_checkValue_4 : decode cX1_checkValue 4 = .ok (.if_icmp .eq 11, 3) := fdf dAb_65.2.2.2.1
theorem dX1_checkValue_7 : decode cX1_checkValue 7 = .ok (.iload_n 0, 1) := fdf dAb_65.2.2.2.2.1
theorem dX1_checkValue_8 : decode cX1_checkValue 8 = .ok (.bipush (-99), 2) := fdf dAb_65.2.2.2.2.2.1
theorem dX1_checkValue_10 : decode cX1_checkValue 10 = .ok (.bipush 99, 2) := fdf dAb_65.2.2.2.2.2.2.1
theorem dX1_checkValue_12 : decode cX1_checkValue 12 = .ok (.invokestatic 33, 3) := fdf dAb_65.2.2.2.2.2.2.2.1
theorem dX1_checkValue_15 : decode cX1_checkValue 15 = .ok (.return_, 1) := fdf dAb_65.2.2.2.2.2.2.2.2.1
theorem dX1_checkRule_0 : decode cX1_checkRule 0 = .ok (.iload_n 0, 1) := fdf dAb_65.2.2.2.2.2.2.2.2.2.1
theorem dX1_checkRule_1 : decode cX1_checkRule 1 = .ok (.iconst 0, 1) := fdf dAb_65.2.2.2.2.2.2.2.2.2.2.1
theorem dX1_checkRule_2 : decode cX1_checkRule 2 = .ok (.iconst 3, 1) := fdf dAb_65.2.2.2.2.2.2.2.2.2.2.2.1
theorem dX1_checkRule_3 : decode cX1_checkRule 3 = .ok (.invokestatic 33, 3) := fdf dAb_65.2.2.2.2.2.2.2.2.2.2.2.2.1
theorem dX1_checkRule_6 : decode cX1_checkRule 6 = .ok (.iload_n 1, 1) := fdf dAb_65.2.2.2.2.2.2.2.2.2.2.2.2.2.1
theorem dX1_checkRule_7 : decode cX1_checkRule 7 = .ok (.bipush (-99), 2) := fdf dAb_65.2.2.2.2.2.2.2.2.2.2.2.2.2.2.1
theorem dX1_checkRule_9 : decode cX1_checkRule 9 = .ok (.bipush 99, 2) := fdf dAb_65.2.2.2.2.2.2.2.2.2.2.2.2.2.2.2
theorem dAb_66 : fdq cX1_checkRule 11 (.invokestatic 33) 3 = true ∧ fdq cX1_checkRule 14 (.return_) 1 = true ∧ fdq cX1_refuseIf 0 (.iload_n 1) 1 = true ∧ fdq cX1_refuseIf 1 (.ifCond .ne 5) 3 = true ∧ fdq cX1_refuseIf 4 (.iconst 0) 1 = true ∧ fdq cX1_refuseIf 5 (.ireturn) 1 = true ∧ fdq cX1_refuseIf 6 (.aload_n 0) 1 = true ∧ fdq cX1_refuseIf 7 (.dup) 1 = true ∧ fdq cX1_refuseIf 8 (.getfield 23) 3 = true ∧ fdq cX1_refuseIf 11 (.iconst 1) 1 = true ∧ fdq cX1_refuseIf 12 (.iadd) 1 = true ∧ fdq cX1_refuseIf 13 (.putfield 23) 3 = true ∧ fdq cX1_refuseIf 16 (.bipush (-9)) 2 = true ∧ fdq cX1_refuseIf 18 (.ireturn) 1 = true ∧ fdq cX1_stepsLeft 0 (.iload_n 2) 1 = true ∧ fdq cX1_stepsLeft 1 (.ifCond .eq 7) 3 = true := by decide +kernel
theorem dX1_checkRule_11 : decode cX1_checkRule 11 = .ok (.invokestatic 33, 3) := fdf dAb_66.1
theorem dX1_checkRule_14 : decode cX1_checkRule 14 = .ok (.return_, 1) := fdf dAb_66.2.1
theorem dX1_refuseIf_0 : decode cX1_refuseIf 0 = .ok (.iload_n 1, 1) := fdf dAb_66.2.2.1
theorem dX1_refuseIf_1 : decode cX1_refuseIf 1 = .ok (.ifCond .ne 5, 3) := fdf dAb_66.2.2.2.1
theorem dX1_refuseIf_4 : decode cX1_refuseIf 4 = .ok (.iconst 0, 1) := fdf dAb_66.2.2.2.2.1
theorem dX1_refuseIf_5 : decode cX1_refuseIf 5 = .ok (.ireturn, 1) := fdf dAb_66.2.2.2.2.2.1
theorem dX1_refuseIf_6 : decode cX1_refuseIf 6 = .ok (.aload_n 0, 1) := fdf dAb_66.2.2.2.2.2.2.1
theorem dX1_refuseIf_7 : decode cX1_refuseIf 7 = .ok (.dup, 1) := fdf dAb_66.2.2.2.2.2.2.2.1
theorem dX1_refuseIf_8 : decode cX1_refuseIf 8 = .ok (.getfield 23, 3) := fdf dAb_66.2.2.2.2.2.2.2.2.1
theorem dX1_refuseIf_11 : decode cX1_refuseIf 11 = .ok (.iconst 1, 1) := fdf dAb_66.2.2.2.2.2.2.2.2.2.1
theorem dX1_refuseIf_12 : decode cX1_refuseIf 12 = .ok (.iadd, 1) := fdf dAb_66.2.2.2.2.2.2.2.2.2.2.1
theorem dX1_refuseIf_13 : decode cX1_refuseIf 13 = .ok (.putfield 23, 3) := fdf dAb_66.2.2.2.2.2.2.2.2.2.2.2.1
theorem dX1_refuseIf_16 : decode cX1_refuseIf 16 = .ok (.bipush (-9), 2) := fdf dAb_66.2.2.2.2.2.2.2.2.2.2.2.2.1
theorem dX1_refuseIf_18 : decode cX1_refuseIf 18 = .ok (.ireturn, 1) := fdf dAb_66.2.2.2.2.2.2.2.2.2.2.2.2.2.1
theorem dX1_stepsLeft_0 : decode cX1_stepsLeft 0 = .ok (.iload_n 2, 1) := fdf dAb_66.2.2.2.2.2.2.2.2.2.2.2.2.2.2.1
theorem dX1_stepsLeft_1 : decode cX1_stepsLeft 1 = .ok (.ifCond .eq 7, 3) := fdf dAb_66.2.2.2.2.2.2.2.2.2.2.2.2.2.2.2
theorem dAb_67 : fdq cX1_stepsLeft 4 (.iload_n 1) 1 = true ∧ fdq cX1_stepsLeft 5 (.goto 9) 3 = true ∧ fdq cX1_stepsLeft 8 (.aload_n 0) 1 = true ∧ fdq cX1_stepsLeft 9 (.getfield 68) 3 = true ∧ fdq cX1_stepsLeft 12 (.iload_n 1) 1 = true ∧ fdq cX1_stepsLeft 13 (.isub) 1 = true ∧ fdq cX1_stepsLeft 14 (.ireturn) 1 = true ∧ fdq cX1_placeAfter 0 (.iload_n 2) 1 = true ∧ fdq cX1_placeAfter 1 (.ifCond .eq 11) 3 = true ∧ fdq cX1_placeAfter 4 (.iload_n 0) 1 = true ∧ fdq cX1_placeAfter 5 (.iconst 1) 1 = true ∧ fdq cX1_placeAfter 6 (.isub) 1 = true ∧ fdq cX1_placeAfter 7 (.iload_n 1) 1 = true ∧ fdq cX1_placeAfter 8 (.isub) 1 = true ∧ fdq cX1_placeAfter 9 (.goto 6) 3 = true ∧ fdq cX1_placeAfter 12 (.iload_n 0) 1 = true := by decide +kernel
theorem dX1_stepsLeft_4 : decode cX1_stepsLeft 4 = .ok (.iload_n 1, 1) := fdf dAb_67.1
theorem dX1_stepsLeft_5 : decode cX1_stepsLeft 5 = .ok (.goto 9, 3) := fdf dAb_67.2.1
theorem dX1_stepsLeft_8 : decode cX1_stepsLeft 8 = .ok (.aload_n 0, 1) := fdf dAb_67.2.2.1
theorem dX1_stepsLeft_9 : decode cX1_stepsLeft 9 = .ok (.getfield 68, 3) := fdf dAb_67.2.2.2.1
theorem dX1_stepsLeft_12 : decode cX1_stepsLeft 12 = .ok (.iload_n 1, 1) := fdf dAb_67.2.2.2.2.1
theorem dX1_stepsLeft_13 : decode cX1_stepsLeft 13 = .ok (.isub, 1) := fdf dAb_67.2.2.2.2.2.1
theorem dX1_stepsLeft_14 : decode cX1_stepsLeft 14 = .ok (.ireturn, 1) := fdf dAb_67.2.2.2.2.2.2.1
theorem dX1_placeAfter_0 : decode cX1_placeAfter 0 = .ok (.iload_n 2, 1) := fdf dAb_67.2.2.2.2.2.2.2.1
theorem dX1_placeAfter_1 : decode cX1_placeAfter 1 = .ok (.ifCond .eq 11, 3) := fdf dAb_67.2.2.2.2.2.2.2.2.1
theorem dX1_placeAfter_4 : decode cX1_placeAfter 4 = .ok (.iload_n 0, 1) := fdf dAb_67.2.2.2.2.2.2.2.2.2.1
theorem dX1_placeAfter_5 : decode cX1_placeAfter 5 = .ok (.iconst 1, 1) := fdf dAb_67.2.2.2.2.2.2.2.2.2.2.1
theorem dX1_placeAfter_6 : decode cX1_placeAfter 6 = .ok (.isub, 1) := fdf dAb_67.2.2.2.2.2.2.2.2.2.2.2.1
theorem dX1_placeAfter_7 : decode cX1_placeAfter 7 = .ok (.iload_n 1, 1) := fdf dAb_67.2.2.2.2.2.2.2.2.2.2.2.2.1
theorem dX1_placeAfter_8 : decode cX1_placeAfter 8 = .ok (.isub, 1) := fdf dAb_67.2.2.2.2.2.2.2.2.2.2.2.2.2.1
theorem dX1_placeAfter_9 : decode cX1_placeAfter 9 = .ok (.goto 6, 3) := fdf dAb_67.2.2.2.2.2.2.2.2.2.2.2.2.2.2.1
theorem dX1_placeAfter_12 : decode cX1_placeAfter 12 = .ok (.iload_n 0, 1) := fdf dAb_67.2.2.2.2.2.2.2.2.2.2.2.2.2.2.2
theorem dAb_68 : fdq cX1_placeAfter 13 (.iload_n 1) 1 = true ∧ fdq cX1_placeAfter 14 (.iadd) 1 = true ∧ fdq cX1_placeAfter 15 (.ireturn) 1 = true ∧ fdq cX1_textOf 0 (.new 210) 3 = true ∧ fdq cX1_textOf 3 (.dup) 1 = true ∧ fdq cX1_textOf 4 (.invokespecial 212) 3 = true ∧ fdq cX1_textOf 7 (.astore 5) 2 = true ∧ fdq cX1_textOf 9 (.iconst 0) 1 = true ∧ fdq cX1_textOf 10 (.istore 6) 2 = true ∧ fdq cX1_textOf 12 (.iload 6) 2 = true ∧ fdq cX1_textOf 14 (.iload_n 2) 1 = true ∧ fdq cX1_textOf 15 (.if_icmp .ge 63) 3 = true ∧ fdq cX1_textOf 18 (.iload_n 1) 1 = true ∧ fdq cX1_textOf 19 (.iload 6) 2 = true ∧ fdq cX1_textOf 21 (.iload_n 3) 1 = true ∧ fdq cX1_textOf 22 (.invokestatic 213) 3 = true := by decide +kernel
theorem dX1_placeAfter_13 : decode cX1_placeAfter 13 = .ok (.iload_n 1, 1) := fdf dAb_68.1
theorem dX1_placeAfter_14 : decode cX1_placeAfter 14 = .ok (.iadd, 1) := fdf dAb_68.2.1
theorem dX1_placeAfter_15 : decode cX1_placeAfter 15 = .ok (.ireturn, 1) := fdf dAb_68.2.2.1
theorem dX1_textOf_0 : decode cX1_textOf 0 = .ok (.new 210, 3) := fdf dAb_68.2.2.2.1
theorem dX1_textOf_3 : decode cX1_textOf 3 = .ok (.dup, 1) := fdf dAb_68.2.2.2.2.1
theorem dX1_textOf_4 : decode cX1_textOf 4 = .ok (.invokespecial 212, 3) := fdf dAb_68.2.2.2.2.2.1
theorem dX1_textOf_7 : decode cX1_textOf 7 = .ok (.astore 5, 2) := fdf dAb_68.2.2.2.2.2.2.1
theorem dX1_textOf_9 : decode cX1_textOf 9 = .ok (.iconst 0, 1) := fdf dAb_68.2.2.2.2.2.2.2.1
theorem dX1_textOf_10 : decode cX1_textOf 10 = .ok (.istore 6, 2) := fdf dAb_68.2.2.2.2.2.2.2.2.1
theorem dX1_textOf_12 : decode cX1_textOf 12 = .ok (.iload 6, 2) := fdf dAb_68.2.2.2.2.2.2.2.2.2.1
theorem dX1_textOf_14 : decode cX1_textOf 14 = .ok (.iload_n 2, 1) := fdf dAb_68.2.2.2.2.2.2.2.2.2.2.1
theorem dX1_textOf_15 : decode cX1_textOf 15 = .ok (.if_icmp .ge 63, 3) := fdf dAb_68.2.2.2.2.2.2.2.2.2.2.2.1
theorem dX1_textOf_18 : decode cX1_textOf 18 = .ok (.iload_n 1, 1) := fdf dAb_68.2.2.2.2.2.2.2.2.2.2.2.2.1
theorem dX1_textOf_19 : decode cX1_textOf 19 = .ok (.iload 6, 2) := fdf dAb_68.2.2.2.2.2.2.2.2.2.2.2.2.2.1
theorem dX1_textOf_21 : decode cX1_textOf 21 = .ok (.iload_n 3, 1) := fdf dAb_68.2.2.2.2.2.2.2.2.2.2.2.2.2.2.1
theorem dX1_textOf_22 : decode cX1_textOf 22 = .ok (.invokestatic 213, 3) := fdf dAb_68.2.2.2.2.2.2.2.2.2.2.2.2.2.2.2
theorem dAb_69 : fdq cX1_textOf 25 (.istore 7) 2 = true ∧ fdq cX1_textOf 27 (.iload 6) 2 = true ∧ fdq cX1_textOf 29 (.ifCond .le 11) 3 = true ∧ fdq cX1_textOf 32 (.aload 5) 2 = true ∧ fdq cX1_textOf 34 (.bipush 32) 2 = true ∧ fdq cX1_textOf 36 (.invokevirtual 217) 3 = true ∧ fdq cX1_textOf 39 (.pop) 1 = true ∧ fdq cX1_textOf 40 (.iload 4) 2 = true ∧ fdq cX1_textOf 42 (.ifCond .eq 19) 3 = true ∧ fdq cX1_textOf 45 (.aload 5) 2 = true ∧ fdq cX1_textOf 47 (.iload 7) 2 = true ∧ fdq cX1_textOf 49 (.invokevirtual 221) 3 = true ∧ fdq cX1_textOf 52 (.pop) 1 = true ∧ fdq cX1_textOf 53 (.aload 5) 2 = true ∧ fdq cX1_textOf 55 (.bipush 58) 2 = true ∧ fdq cX1_textOf 57 (.invokevirtual 217) 3 = true := by decide +kernel
theorem dX1_textOf_25 : decode cX1_textOf 25 = .ok (.istore 7, 2) := fdf dAb_69.1
theorem dX1_textOf_27 : decode cX1_textOf 27 = .ok (.iload 6, 2) := fdf dAb_69.2.1
theorem dX1_textOf_29 : decode cX1_textOf 29 = .ok (.ifCond .le 11, 3) := fdf dAb_69.2.2.1
theorem dX1_textOf_32 : decode cX1_textOf 32 = .ok (.aload 5, 2) := fdf dAb_69.2.2.2.1
theorem dX1_textOf_34 : decode cX1_textOf 34 = .ok (.bipush 32, 2) := fdf dAb_69.2.2.2.2.1
theorem dX1_textOf_36 : decode cX1_textOf 36 = .ok (.invokevirtual 217, 3) := fdf dAb_69.2.2.2.2.2.1
theorem dX1_textOf_39 : decode cX1_textOf 39 = .ok (.pop, 1) := fdf dAb_69.2.2.2.2.2.2.1
theorem dX1_textOf_40 : decode cX1_textOf 40 = .ok (.iload 4, 2) := fdf dAb_69.2.2.2.2.2.2.2.1
theorem dX1_textOf_42 : decode cX1_textOf 42 = .ok (.ifCond .eq 19, 3) := fdf dAb_69.2.2.2.2.2.2.2.2.1
theorem dX1_textOf_45 : decode cX1_textOf 45 = .ok (.aload 5, 2) := fdf dAb_69.2.2.2.2.2.2.2.2.2.1
theorem dX1_textOf_47 : decode cX1_textOf 47 = .ok (.iload 7, 2) := fdf dAb_69.2.2.2.2.2.2.2.2.2.2.1
theorem dX1_textOf_49 : decode cX1_textOf 49 = .ok (.invokevirtual 221, 3) := fdf dAb_69.2.2.2.2.2.2.2.2.2.2.2.1
theorem dX1_textOf_52 : decode cX1_textOf 52 = .ok (.pop, 1) := fdf dAb_69.2.2.2.2.2.2.2.2.2.2.2.2.1
theorem dX1_textOf_53 : decode cX1_textOf 53 = .ok (.aload 5, 2) := fdf dAb_69.2.2.2.2.2.2.2.2.2.2.2.2.2.1
theorem dX1_textOf_55 : decode cX1_textOf 55 = .ok (.bipush 58, 2) := fdf dAb_69.2.2.2.2.2.2.2.2.2.2.2.2.2.2.1
theorem dX1_textOf_57 : decode cX1_textOf 57 = .ok (.invokevirtual 217, 3) := fdf dAb_69.2.2.2.2.2.2.2.2.2.2.2.2.2.2.2
theorem dAb_70 : fdq cX1_textOf 60 (.pop) 1 = true ∧ fdq cX1_textOf 61 (.aload 5) 2 = true ∧ fdq cX1_textOf 63 (.aload_n 0) 1 = true ∧ fdq cX1_textOf 64 (.iload 7) 2 = true ∧ fdq cX1_textOf 66 (.invokevirtual 59) 3 = true ∧ fdq cX1_textOf 69 (.invokestatic 224) 3 = true ∧ fdq cX1_textOf 72 (.iinc 6 1) 3 = true ∧ fdq cX1_textOf 75 (.goto (-63)) 3 = true ∧ fdq cX1_textOf 78 (.aload 5) 2 = true ∧ fdq cX1_textOf 80 (.invokevirtual 228) 3 = true ∧ fdq cX1_textOf 83 (.areturn) 1 = true ∧ fdq cX1_appendValue 0 (.iload_n 1) 1 = true ∧ fdq cX1_appendValue 1 (.sipush (-1000)) 3 = true ∧ fdq cX1_appendValue 4 (.if_icmp .ne 13) 3 = true ∧ fdq cX1_appendValue 7 (.aload_n 0) 1 = true ∧ fdq cX1_appendValue 8 (.bipush 45) 2 = true := by decide +kernel
theorem dX1_textOf_60 : decode cX1_textOf 60 = .ok (.pop, 1) := fdf dAb_70.1
theorem dX1_textOf_61 : decode cX1_textOf 61 = .ok (.aload 5, 2) := fdf dAb_70.2.1
theorem dX1_textOf_63 : decode cX1_textOf 63 = .ok (.aload_n 0, 1) := fdf dAb_70.2.2.1
theorem dX1_textOf_64 : decode cX1_textOf 64 = .ok (.iload 7, 2) := fdf dAb_70.2.2.2.1
theorem dX1_textOf_66 : decode cX1_textOf 66 = .ok (.invokevirtual 59, 3) := fdf dAb_70.2.2.2.2.1
theorem dX1_textOf_69 : decode cX1_textOf 69 = .ok (.invokestatic 224, 3) := fdf dAb_70.2.2.2.2.2.1
theorem dX1_textOf_72 : decode cX1_textOf 72 = .ok (.iinc 6 1, 3) := fdf dAb_70.2.2.2.2.2.2.1
theorem dX1_textOf_75 : decode cX1_textOf 75 = .ok (.goto (-63), 3) := fdf dAb_70.2.2.2.2.2.2.2.1
theorem dX1_textOf_78 : decode cX1_textOf 78 = .ok (.aload 5, 2) := fdf dAb_70.2.2.2.2.2.2.2.2.1
theorem dX1_textOf_80 : decode cX1_textOf 80 = .ok (.invokevirtual 228, 3) := fdf dAb_70.2.2.2.2.2.2.2.2.2.1
theorem dX1_textOf_83 : decode cX1_textOf 83 = .ok (.areturn, 1) := fdf dAb_70.2.2.2.2.2.2.2.2.2.2.1
theorem dX1_appendValue_0 : decode cX1_appendValue 0 = .ok (.iload_n 1, 1) := fdf dAb_70.2.2.2.2.2.2.2.2.2.2.2.1
theorem dX1_appendValue_1 : decode cX1_appendValue 1 = .ok (.sipush (-1000), 3) := fdf dAb_70.2.2.2.2.2.2.2.2.2.2.2.2.1
theorem dX1_appendValue_4 : decode cX1_appendValue 4 = .ok (.if_icmp .ne 13, 3) := fdf dAb_70.2.2.2.2.2.2.2.2.2.2.2.2.2.1
theorem dX1_appendValue_7 : decode cX1_appendValue 7 = .ok (.aload_n 0, 1) := fdf dAb_70.2.2.2.2.2.2.2.2.2.2.2.2.2.2.1
theorem dX1_appendValue_8 : decode cX1_appendValue 8 = .ok (.bipush 45, 2) := fdf dAb_70.2.2.2.2.2.2.2.2.2.2.2.2.2.2.2
theorem dAb_71 : fdq cX1_appendValue 10 (.invokevirtual 217) 3 = true ∧ fdq cX1_appendValue 13 (.pop) 1 = true ∧ fdq cX1_appendValue 14 (.goto 9) 3 = true ∧ fdq cX1_appendValue 17 (.aload_n 0) 1 = true ∧ fdq cX1_appendValue 18 (.iload_n 1) 1 = true ∧ fdq cX1_appendValue 19 (.invokevirtual 221) 3 = true ∧ fdq cX1_appendValue 22 (.pop) 1 = true ∧ fdq cX1_appendValue 23 (.return_) 1 = true ∧ fdq cX1_numberOf 0 (.iload_n 0) 1 = true ∧ fdq cX1_numberOf 1 (.sipush (-1000)) 3 = true ∧ fdq cX1_numberOf 4 (.if_icmp .ne 7) 3 = true ∧ fdq cX1_numberOf 7 (.iconst 0) 1 = true ∧ fdq cX1_numberOf 8 (.goto 4) 3 = true ∧ fdq cX1_numberOf 11 (.iload_n 0) 1 = true ∧ fdq cX1_numberOf 12 (.ireturn) 1 = true ∧ fdq cX1_codeOf 0 (.iconst 1) 1 = true := by decide +kernel
theorem dX1_appendValue_10 : decode cX1_appendValue 10 = .ok (.invokevirtual 217, 3) := fdf dAb_71.1
theorem dX1_appendValue_13 : decode cX1_appendValue 13 = .ok (.pop, 1) := fdf dAb_71.2.1
theorem dX1_appendValue_14 : decode cX1_appendValue 14 = .ok (.goto 9, 3) := fdf dAb_71.2.2.1
theorem dX1_appendValue_17 : decode cX1_appendValue 17 = .ok (.aload_n 0, 1) := fdf dAb_71.2.2.2.1
theorem dX1_appendValue_18 : decode cX1_appendValue 18 = .ok (.iload_n 1, 1) := fdf dAb_71.2.2.2.2.1
theorem dX1_appendValue_19 : decode cX1_appendValue 19 = .ok (.invokevirtual 221, 3) := fdf dAb_71.2.2.2.2.2.1
theorem dX1_appendValue_22 : decode cX1_appendValue 22 = .ok (.pop, 1) := fdf dAb_71.2.2.2.2.2.2.1
theorem dX1_appendValue_23 : decode cX1_appendValue 23 = .ok (.return_, 1) := fdf dAb_71.2.2.2.2.2.2.2.1
theorem dX1_numberOf_0 : decode cX1_numberOf 0 = .ok (.iload_n 0, 1) := fdf dAb_71.2.2.2.2.2.2.2.2.1
theorem dX1_numberOf_1 : decode cX1_numberOf 1 = .ok (.sipush (-1000), 3) := fdf dAb_71.2.2.2.2.2.2.2.2.2.1
theorem dX1_numberOf_4 : decode cX1_numberOf 4 = .ok (.if_icmp .ne 7, 3) := fdf dAb_71.2.2.2.2.2.2.2.2.2.2.1
theorem dX1_numberOf_7 : decode cX1_numberOf 7 = .ok (.iconst 0, 1) := fdf dAb_71.2.2.2.2.2.2.2.2.2.2.2.1
theorem dX1_numberOf_8 : decode cX1_numberOf 8 = .ok (.goto 4, 3) := fdf dAb_71.2.2.2.2.2.2.2.2.2.2.2.2.1
theorem dX1_numberOf_11 : decode cX1_numberOf 11 = .ok (.iload_n 0, 1) := fdf dAb_71.2.2.2.2.2.2.2.2.2.2.2.2.2.1
theorem dX1_numberOf_12 : decode cX1_numberOf 12 = .ok (.ireturn, 1) := fdf dAb_71.2.2.2.2.2.2.2.2.2.2.2.2.2.2.1
theorem dX1_codeOf_0 : decode cX1_codeOf 0 = .ok (.iconst 1, 1) := fdf dAb_71.2.2.2.2.2.2.2.2.2.2.2.2.2.2.2
theorem dAb_72 : fdq cX1_codeOf 1 (.istore_n 3) 1 = true ∧ fdq cX1_codeOf 2 (.iload_n 1) 1 = true ∧ fdq cX1_codeOf 3 (.istore 4) 2 = true ∧ fdq cX1_codeOf 5 (.iload 4) 2 = true ∧ fdq cX1_codeOf 7 (.iload_n 2) 1 = true ∧ fdq cX1_codeOf 8 (.if_icmp .ge 24) 3 = true ∧ fdq cX1_codeOf 11 (.bipush 31) 2 = true ∧ fdq cX1_codeOf 13 (.iload_n 3) 1 = true ∧ fdq cX1_codeOf 14 (.imul) 1 = true ∧ fdq cX1_codeOf 15 (.aload_n 0) 1 = true ∧ fdq cX1_codeOf 16 (.iload 4) 2 = true ∧ fdq cX1_codeOf 18 (.invokevirtual 59) 3 = true ∧ fdq cX1_codeOf 21 (.invokestatic 115) 3 = true ∧ fdq cX1_codeOf 24 (.iadd) 1 = true ∧ fdq cX1_codeOf 25 (.istore_n 3) 1 = true ∧ fdq cX1_codeOf 26 (.iinc 4 1) 3 = true := by decide +kernel
theorem dX1_codeOf_1 : decode cX1_codeOf 1 = .ok (.istore_n 3, 1) := fdf dAb_72.1
theorem dX1_codeOf_2 : decode cX1_codeOf 2 = .ok (.iload_n 1, 1) := fdf dAb_72.2.1
theorem dX1_codeOf_3 : decode cX1_codeOf 3 = .ok (.istore 4, 2) := fdf dAb_72.2.2.1
theorem dX1_codeOf_5 : decode cX1_codeOf 5 = .ok (.iload 4, 2) := fdf dAb_72.2.2.2.1
theorem dX1_codeOf_7 : decode cX1_codeOf 7 = .ok (.iload_n 2, 1) := fdf dAb_72.2.2.2.2.1
theorem dX1_codeOf_8 : decode cX1_codeOf 8 = .ok (.if_icmp .ge 24, 3) := fdf dAb_72.2.2.2.2.2.1
theorem dX1_codeOf_11 : decode cX1_codeOf 11 = .ok (.bipush 31, 2) := fdf dAb_72.2.2.2.2.2.2.1
theorem dX1_codeOf_13 : decode cX1_codeOf 13 = .ok (.iload_n 3, 1) := fdf dAb_72.2.2.2.2.2.2.2.1
theorem dX1_codeOf_14 : decode cX1_codeOf 14 = .ok (.imul, 1) := fdf dAb_72.2.2.2.2.2.2.2.2.1
theorem dX1_codeOf_15 : decode cX1_codeOf 15 = .ok (.aload_n 0, 1) := fdf dAb_72.2.2.2.2.2.2.2.2.2.1
theorem dX1_codeOf_16 : decode cX1_codeOf 16 = .ok (.iload 4, 2) := fdf dAb_72.2.2.2.2.2.2.2.2.2.2.1
theorem dX1_codeOf_18 : decode cX1_codeOf 18 = .ok (.invokevirtual 59, 3) := fdf dAb_72.2.2.2.2.2.2.2.2.2.2.2.1
theorem dX1_codeOf_21 : decode cX1_codeOf 21 = .ok (.invokestatic 115, 3) := fdf dAb_72.2.2.2.2.2.2.2.2.2.2.2.2.1
theorem dX1_codeOf_24 : decode cX1_codeOf 24 = .ok (.iadd, 1) := fdf dAb_72.2.2.2.2.2.2.2.2.2.2.2.2.2.1
theorem dX1_codeOf_25 : decode cX1_codeOf 25 = .ok (.istore_n 3, 1) := fdf dAb_72.2.2.2.2.2.2.2.2.2.2.2.2.2.2.1
theorem dX1_codeOf_26 : decode cX1_codeOf 26 = .ok (.iinc 4 1, 3) := fdf dAb_72.2.2.2.2.2.2.2.2.2.2.2.2.2.2.2
theorem dAb_73 : fdq cX1_codeOf 29 (.goto (-24)) 3 = true ∧ fdq cX1_codeOf 32 (.iload_n 3) 1 = true ∧ fdq cX1_codeOf 33 (.ireturn) 1 = true ∧ fdq cX1_firstPlace 0 (.iconst 0) 1 = true ∧ fdq cX1_firstPlace 1 (.istore_n 2) 1 = true ∧ fdq cX1_firstPlace 2 (.iload_n 2) 1 = true ∧ fdq cX1_firstPlace 3 (.aload_n 0) 1 = true ∧ fdq cX1_firstPlace 4 (.getfield 68) 3 = true ∧ fdq cX1_firstPlace 7 (.if_icmp .ge 20) 3 = true ∧ fdq cX1_firstPlace 10 (.aload_n 0) 1 = true ∧ fdq cX1_firstPlace 11 (.iload_n 2) 1 = true ∧ fdq cX1_firstPlace 12 (.invokevirtual 59) 3 = true ∧ fdq cX1_firstPlace 15 (.iload_n 1) 1 = true ∧ fdq cX1_firstPlace 16 (.if_icmp .ne 5) 3 = true ∧ fdq cX1_firstPlace 19 (.iload_n 2) 1 = true ∧ fdq cX1_firstPlace 20 (.ireturn) 1 = true := by decide +kernel
theorem dX1_codeOf_29 : decode cX1_codeOf 29 = .ok (.goto (-24), 3) := fdf dAb_73.1
theorem dX1_codeOf_32 : decode cX1_codeOf 32 = .ok (.iload_n 3, 1) := fdf dAb_73.2.1
theorem dX1_codeOf_33 : decode cX1_codeOf 33 = .ok (.ireturn, 1) := fdf dAb_73.2.2.1
theorem dX1_firstPlace_0 : decode cX1_firstPlace 0 = .ok (.iconst 0, 1) := fdf dAb_73.2.2.2.1
theorem dX1_firstPlace_1 : decode cX1_firstPlace 1 = .ok (.istore_n 2, 1) := fdf dAb_73.2.2.2.2.1
theorem dX1_firstPlace_2 : decode cX1_firstPlace 2 = .ok (.iload_n 2, 1) := fdf dAb_73.2.2.2.2.2.1
theorem dX1_firstPlace_3 : decode cX1_firstPlace 3 = .ok (.aload_n 0, 1) := fdf dAb_73.2.2.2.2.2.2.1
theorem dX1_firstPlace_4 : decode cX1_firstPlace 4 = .ok (.getfield 68, 3) := fdf dAb_73.2.2.2.2.2.2.2.1
theorem dX1_firstPlace_7 : decode cX1_firstPlace 7 = .ok (.if_icmp .ge 20, 3) := fdf dAb_73.2.2.2.2.2.2.2.2.1
theorem dX1_firstPlace_10 : decode cX1_firstPlace 10 = .ok (.aload_n 0, 1) := fdf dAb_73.2.2.2.2.2.2.2.2.2.1
theorem dX1_firstPlace_11 : decode cX1_firstPlace 11 = .ok (.iload_n 2, 1) := fdf dAb_73.2.2.2.2.2.2.2.2.2.2.1
theorem dX1_firstPlace_12 : decode cX1_firstPlace 12 = .ok (.invokevirtual 59, 3) := fdf dAb_73.2.2.2.2.2.2.2.2.2.2.2.1
theorem dX1_firstPlace_15 : decode cX1_firstPlace 15 = .ok (.iload_n 1, 1) := fdf dAb_73.2.2.2.2.2.2.2.2.2.2.2.2.1
theorem dX1_firstPlace_16 : decode cX1_firstPlace 16 = .ok (.if_icmp .ne 5, 3) := fdf dAb_73.2.2.2.2.2.2.2.2.2.2.2.2.2.1
theorem dX1_firstPlace_19 : decode cX1_firstPlace 19 = .ok (.iload_n 2, 1) := fdf dAb_73.2.2.2.2.2.2.2.2.2.2.2.2.2.2.1
theorem dX1_firstPlace_20 : decode cX1_firstPlace 20 = .ok (.ireturn, 1) := fdf dAb_73.2.2.2.2.2.2.2.2.2.2.2.2.2.2.2
theorem dAb_74 : fdq cX1_firstPlace 21 (.iinc 2 1) 3 = true ∧ fdq cX1_firstPlace 24 (.goto (-22)) 3 = true ∧ fdq cX1_firstPlace 27 (.iconst (-1)) 1 = true ∧ fdq cX1_firstPlace 28 (.ireturn) 1 = true ∧ fdq cX1_lastPlace 0 (.aload_n 0) 1 = true ∧ fdq cX1_lastPlace 1 (.getfield 68) 3 = true ∧ fdq cX1_lastPlace 4 (.iconst 1) 1 = true ∧ fdq cX1_lastPlace 5 (.isub) 1 = true ∧ fdq cX1_lastPlace 6 (.istore_n 2) 1 = true ∧ fdq cX1_lastPlace 7 (.iload_n 2) 1 = true ∧ fdq cX1_lastPlace 8 (.ifCond .lt 20) 3 = true ∧ fdq cX1_lastPlace 11 (.aload_n 0) 1 = true ∧ fdq cX1_lastPlace 12 (.iload_n 2) 1 = true ∧ fdq cX1_lastPlace 13 (.invokevirtual 59) 3 = true ∧ fdq cX1_lastPlace 16 (.iload_n 1) 1 = true ∧ fdq cX1_lastPlace 17 (.if_icmp .ne 5) 3 = true := by decide +kernel
theorem dX1_firstPlace_21 : decode cX1_firstPlace 21 = .ok (.iinc 2 1, 3) := fdf dAb_74.1
theorem dX1_firstPlace_24 : decode cX1_firstPlace 24 = .ok (.goto (-22), 3) := fdf dAb_74.2.1
theorem dX1_firstPlace_27 : decode cX1_firstPlace 27 = .ok (.iconst (-1), 1) := fdf dAb_74.2.2.1
theorem dX1_firstPlace_28 : decode cX1_firstPlace 28 = .ok (.ireturn, 1) := fdf dAb_74.2.2.2.1
theorem dX1_lastPlace_0 : decode cX1_lastPlace 0 = .ok (.aload_n 0, 1) := fdf dAb_74.2.2.2.2.1
theorem dX1_lastPlace_1 : decode cX1_lastPlace 1 = .ok (.getfield 68, 3) := fdf dAb_74.2.2.2.2.2.1
theorem dX1_lastPlace_4 : decode cX1_lastPlace 4 = .ok (.iconst 1, 1) := fdf dAb_74.2.2.2.2.2.2.1
theorem dX1_lastPlace_5 : decode cX1_lastPlace 5 = .ok (.isub, 1) := fdf dAb_74.2.2.2.2.2.2.2.1
theorem dX1_lastPlace_6 : decode cX1_lastPlace 6 = .ok (.istore_n 2, 1) := fdf dAb_74.2.2.2.2.2.2.2.2.1
theorem dX1_lastPlace_7 : decode cX1_lastPlace 7 = .ok (.iload_n 2, 1) := fdf dAb_74.2.2.2.2.2.2.2.2.2.1
theorem dX1_lastPlace_8 : decode cX1_lastPlace 8 = .ok (.ifCond .lt 20, 3) := fdf dAb_74.2.2.2.2.2.2.2.2.2.2.1
theorem dX1_lastPlace_11 : decode cX1_lastPlace 11 = .ok (.aload_n 0, 1) := fdf dAb_74.2.2.2.2.2.2.2.2.2.2.2.1
theorem dX1_lastPlace_12 : decode cX1_lastPlace 12 = .ok (.iload_n 2, 1) := fdf dAb_74.2.2.2.2.2.2.2.2.2.2.2.2.1
theorem dX1_lastPlace_13 : decode cX1_lastPlace 13 = .ok (.invokevirtual 59, 3) := fdf dAb_74.2.2.2.2.2.2.2.2.2.2.2.2.2.1
theorem dX1_lastPlace_16 : decode cX1_lastPlace 16 = .ok (.iload_n 1, 1) := fdf dAb_74.2.2.2.2.2.2.2.2.2.2.2.2.2.2.1
theorem dX1_lastPlace_17 : decode cX1_lastPlace 17 = .ok (.if_icmp .ne 5, 3) := fdf dAb_74.2.2.2.2.2.2.2.2.2.2.2.2.2.2.2
theorem dAb_75 : fdq cX1_lastPlace 20 (.iload_n 2) 1 = true ∧ fdq cX1_lastPlace 21 (.ireturn) 1 = true ∧ fdq cX1_lastPlace 22 (.iinc 2 (-1)) 3 = true ∧ fdq cX1_lastPlace 25 (.goto (-18)) 3 = true ∧ fdq cX1_lastPlace 28 (.iconst (-1)) 1 = true ∧ fdq cX1_lastPlace 29 (.ireturn) 1 = true ∧ fdq cX1_stands 0 (.aload_n 0) 1 = true ∧ fdq cX1_stands 1 (.iload_n 1) 1 = true ∧ fdq cX1_stands 2 (.invokestatic 79) 3 = true ∧ fdq cX1_stands 5 (.iconst (-1)) 1 = true ∧ fdq cX1_stands 6 (.if_icmp .eq 7) 3 = true ∧ fdq cX1_stands 9 (.iconst 1) 1 = true ∧ fdq cX1_stands 10 (.goto 4) 3 = true ∧ fdq cX1_stands 13 (.iconst 0) 1 = true ∧ fdq cX1_stands 14 (.ireturn) 1 = true ∧ fdq cX1_hasOneThatStands 0 (.iconst 0) 1 = true := by decide +kernel
theorem dX1_lastPlace_20 : decode cX1_lastPlace 20 = .ok (.iload_n 2, 1) := fdf dAb_75.1
theorem dX1_lastPlace_21 : decode cX1_lastPlace 21 = .ok (.ireturn, 1) := fdf dAb_75.2.1
theorem dX1_lastPlace_22 : decode cX1_lastPlace 22 = .ok (.iinc 2 (-1), 3) := fdf dAb_75.2.2.1
theorem dX1_lastPlace_25 : decode cX1_lastPlace 25 = .ok (.goto (-18), 3) := fdf dAb_75.2.2.2.1
theorem dX1_lastPlace_28 : decode cX1_lastPlace 28 = .ok (.iconst (-1), 1) := fdf dAb_75.2.2.2.2.1
theorem dX1_lastPlace_29 : decode cX1_lastPlace 29 = .ok (.ireturn, 1) := fdf dAb_75.2.2.2.2.2.1
theorem dX1_stands_0 : decode cX1_stands 0 = .ok (.aload_n 0, 1) := fdf dAb_75.2.2.2.2.2.2.1
theorem dX1_stands_1 : decode cX1_stands 1 = .ok (.iload_n 1, 1) := fdf dAb_75.2.2.2.2.2.2.2.1
theorem dX1_stands_2 : decode cX1_stands 2 = .ok (.invokestatic 79, 3) := fdf dAb_75.2.2.2.2.2.2.2.2.1
theorem dX1_stands_5 : decode cX1_stands 5 = .ok (.iconst (-1), 1) := fdf dAb_75.2.2.2.2.2.2.2.2.2.1
theorem dX1_stands_6 : decode cX1_stands 6 = .ok (.if_icmp .eq 7, 3) := fdf dAb_75.2.2.2.2.2.2.2.2.2.2.1
theorem dX1_stands_9 : decode cX1_stands 9 = .ok (.iconst 1, 1) := fdf dAb_75.2.2.2.2.2.2.2.2.2.2.2.1
theorem dX1_stands_10 : decode cX1_stands 10 = .ok (.goto 4, 3) := fdf dAb_75.2.2.2.2.2.2.2.2.2.2.2.2.1
theorem dX1_stands_13 : decode cX1_stands 13 = .ok (.iconst 0, 1) := fdf dAb_75.2.2.2.2.2.2.2.2.2.2.2.2.2.1
theorem dX1_stands_14 : decode cX1_stands 14 = .ok (.ireturn, 1) := fdf dAb_75.2.2.2.2.2.2.2.2.2.2.2.2.2.2.1
theorem dX1_hasOneThatStands_0 : decode cX1_hasOneThatStands 0 = .ok (.iconst 0, 1) := fdf dAb_75.2.2.2.2.2.2.2.2.2.2.2.2.2.2.2
theorem dAb_76 : fdq cX1_hasOneThatStands 1 (.istore_n 3) 1 = true ∧ fdq cX1_hasOneThatStands 2 (.iload_n 3) 1 = true ∧ fdq cX1_hasOneThatStands 3 (.aload_n 0) 1 = true ∧ fdq cX1_hasOneThatStands 4 (.getfield 68) 3 = true ∧ fdq cX1_hasOneThatStands 7 (.if_icmp .ge 24) 3 = true ∧ fdq cX1_hasOneThatStands 10 (.aload_n 1) 1 = true ∧ fdq cX1_hasOneThatStands 11 (.aload_n 0) 1 = true ∧ fdq cX1_hasOneThatStands 12 (.iload_n 3) 1 = true ∧ fdq cX1_hasOneThatStands 13 (.invokevirtual 59) 3 = true ∧ fdq cX1_hasOneThatStands 16 (.invokestatic 86) 3 = true ∧ fdq cX1_hasOneThatStands 19 (.iload_n 2) 1 = true ∧ fdq cX1_hasOneThatStands 20 (.if_icmp .ne 5) 3 = true ∧ fdq cX1_hasOneThatStands 23 (.iconst 1) 1 = true ∧ fdq cX1_hasOneThatStands 24 (.ireturn) 1 = true ∧ fdq cX1_hasOneThatStands 25 (.iinc 3 1) 3 = true ∧ fdq cX1_hasOneThatStands 28 (.goto (-26)) 3 = true := by decide +kernel
theorem dX1_hasOneThatStands_1 : decode cX1_hasOneThatStands 1 = .ok (.istore_n 3, 1) := fdf dAb_76.1
theorem dX1_hasOneThatStands_2 : decode cX1_hasOneThatStands 2 = .ok (.iload_n 3, 1) := fdf dAb_76.2.1
theorem dX1_hasOneThatStands_3 : decode cX1_hasOneThatStands 3 = .ok (.aload_n 0, 1) := fdf dAb_76.2.2.1
theorem dX1_hasOneThatStands_4 : decode cX1_hasOneThatStands 4 = .ok (.getfield 68, 3) := fdf dAb_76.2.2.2.1
theorem dX1_hasOneThatStands_7 : decode cX1_hasOneThatStands 7 = .ok (.if_icmp .ge 24, 3) := fdf dAb_76.2.2.2.2.1
theorem dX1_hasOneThatStands_10 : decode cX1_hasOneThatStands 10 = .ok (.aload_n 1, 1) := fdf dAb_76.2.2.2.2.2.1
theorem dX1_hasOneThatStands_11 : decode cX1_hasOneThatStands 11 = .ok (.aload_n 0, 1) := fdf dAb_76.2.2.2.2.2.2.1
theorem dX1_hasOneThatStands_12 : decode cX1_hasOneThatStands 12 = .ok (.iload_n 3, 1) := fdf dAb_76.2.2.2.2.2.2.2.1
theorem dX1_hasOneThatStands_13 : decode cX1_hasOneThatStands 13 = .ok (.invokevirtual 59, 3) := fdf dAb_76.2.2.2.2.2.2.2.2.1
theorem dX1_hasOneThatStands_16 : decode cX1_hasOneThatStands 16 = .ok (.invokestatic 86, 3) := fdf dAb_76.2.2.2.2.2.2.2.2.2.1
theorem dX1_hasOneThatStands_19 : decode cX1_hasOneThatStands 19 = .ok (.iload_n 2, 1) := fdf dAb_76.2.2.2.2.2.2.2.2.2.2.1
theorem dX1_hasOneThatStands_20 : decode cX1_hasOneThatStands 20 = .ok (.if_icmp .ne 5, 3) := fdf dAb_76.2.2.2.2.2.2.2.2.2.2.2.1
theorem dX1_hasOneThatStands_23 : decode cX1_hasOneThatStands 23 = .ok (.iconst 1, 1) := fdf dAb_76.2.2.2.2.2.2.2.2.2.2.2.2.1
theorem dX1_hasOneThatStands_24 : decode cX1_hasOneThatStands 24 = .ok (.ireturn, 1) := fdf dAb_76.2.2.2.2.2.2.2.2.2.2.2.2.2.1
theorem dX1_hasOneThatStands_25 : decode cX1_hasOneThatStands 25 = .ok (.iinc 3 1, 3) := fdf dAb_76.2.2.2.2.2.2.2.2.2.2.2.2.2.2.1
theorem dX1_hasOneThatStands_28 : decode cX1_hasOneThatStands 28 = .ok (.goto (-26), 3) := fdf dAb_76.2.2.2.2.2.2.2.2.2.2.2.2.2.2.2
theorem dAb_77 : fdq cX1_hasOneThatStands 31 (.iconst 0) 1 = true ∧ fdq cX1_hasOneThatStands 32 (.ireturn) 1 = true ∧ fdq cX1_hasAllFrom 0 (.iconst 0) 1 = true ∧ fdq cX1_hasAllFrom 1 (.istore_n 3) 1 = true ∧ fdq cX1_hasAllFrom 2 (.iload_n 3) 1 = true ∧ fdq cX1_hasAllFrom 3 (.aload_n 2) 1 = true ∧ fdq cX1_hasAllFrom 4 (.getfield 68) 3 = true ∧ fdq cX1_hasAllFrom 7 (.if_icmp .ge 26) 3 = true ∧ fdq cX1_hasAllFrom 10 (.aload_n 0) 1 = true ∧ fdq cX1_hasAllFrom 11 (.iload_n 1) 1 = true ∧ fdq cX1_hasAllFrom 12 (.iload_n 3) 1 = true ∧ fdq cX1_hasAllFrom 13 (.iadd) 1 = true ∧ fdq cX1_hasAllFrom 14 (.invokevirtual 59) 3 = true ∧ fdq cX1_hasAllFrom 17 (.aload_n 2) 1 = true ∧ fdq cX1_hasAllFrom 18 (.iload_n 3) 1 = true ∧ fdq cX1_hasAllFrom 19 (.invokevirtual 59) 3 = true := by decide +kernel
theorem dX1_hasOneThatStands_31 : decode cX1_hasOneThatStands 31 = .ok (.iconst 0, 1) := fdf dAb_77.1
theorem dX1_hasOneThatStands_32 : decode cX1_hasOneThatStands 32 = .ok (.ireturn, 1) := fdf dAb_77.2.1
theorem dX1_hasAllFrom_0 : decode cX1_hasAllFrom 0 = .ok (.iconst 0, 1) := fdf dAb_77.2.2.1
theorem dX1_hasAllFrom_1 : decode cX1_hasAllFrom 1 = .ok (.istore_n 3, 1) := fdf dAb_77.2.2.2.1
theorem dX1_hasAllFrom_2 : decode cX1_hasAllFrom 2 = .ok (.iload_n 3, 1) := fdf dAb_77.2.2.2.2.1
theorem dX1_hasAllFrom_3 : decode cX1_hasAllFrom 3 = .ok (.aload_n 2, 1) := fdf dAb_77.2.2.2.2.2.1
theorem dX1_hasAllFrom_4 : decode cX1_hasAllFrom 4 = .ok (.getfield 68, 3) := fdf dAb_77.2.2.2.2.2.2.1
theorem dX1_hasAllFrom_7 : decode cX1_hasAllFrom 7 = .ok (.if_icmp .ge 26, 3) := fdf dAb_77.2.2.2.2.2.2.2.1
theorem dX1_hasAllFrom_10 : decode cX1_hasAllFrom 10 = .ok (.aload_n 0, 1) := fdf dAb_77.2.2.2.2.2.2.2.2.1
theorem dX1_hasAllFrom_11 : decode cX1_hasAllFrom 11 = .ok (.iload_n 1, 1) := fdf dAb_77.2.2.2.2.2.2.2.2.2.1
theorem dX1_hasAllFrom_12 : decode cX1_hasAllFrom 12 = .ok (.iload_n 3, 1) := fdf dAb_77.2.2.2.2.2.2.2.2.2.2.1
theorem dX1_hasAllFrom_13 : decode cX1_hasAllFrom 13 = .ok (.iadd, 1) := fdf dAb_77.2.2.2.2.2.2.2.2.2.2.2.1
theorem dX1_hasAllFrom_14 : decode cX1_hasAllFrom 14 = .ok (.invokevirtual 59, 3) := fdf dAb_77.2.2.2.2.2.2.2.2.2.2.2.2.1
theorem dX1_hasAllFrom_17 : decode cX1_hasAllFrom 17 = .ok (.aload_n 2, 1) := fdf dAb_77.2.2.2.2.2.2.2.2.2.2.2.2.2.1
theorem dX1_hasAllFrom_18 : decode cX1_hasAllFrom 18 = .ok (.iload_n 3, 1) := fdf dAb_77.2.2.2.2.2.2.2.2.2.2.2.2.2.2.1
theorem dX1_hasAllFrom_19 : decode cX1_hasAllFrom 19 = .ok (.invokevirtual 59, 3) := fdf dAb_77.2.2.2.2.2.2.2.2.2.2.2.2.2.2.2
theorem dAb_78 : fdq cX1_hasAllFrom 22 (.if_icmp .eq 5) 3 = true ∧ fdq cX1_hasAllFrom 25 (.iconst 0) 1 = true ∧ fdq cX1_hasAllFrom 26 (.ireturn) 1 = true ∧ fdq cX1_hasAllFrom 27 (.iinc 3 1) 3 = true ∧ fdq cX1_hasAllFrom 30 (.goto (-28)) 3 = true ∧ fdq cX1_hasAllFrom 33 (.iconst 1) 1 = true ∧ fdq cX1_hasAllFrom 34 (.ireturn) 1 = true ∧ fdq cX1_areSame 0 (.aload_n 0) 1 = true ∧ fdq cX1_areSame 1 (.getfield 68) 3 = true ∧ fdq cX1_areSame 4 (.aload_n 1) 1 = true ∧ fdq cX1_areSame 5 (.getfield 68) 3 = true ∧ fdq cX1_areSame 8 (.if_icmp .ne 16) 3 = true ∧ fdq cX1_areSame 11 (.aload_n 0) 1 = true ∧ fdq cX1_areSame 12 (.iconst 0) 1 = true ∧ fdq cX1_areSame 13 (.aload_n 1) 1 = true ∧ fdq cX1_areSame 14 (.invokestatic 94) 3 = true := by decide +kernel
theorem dX1_hasAllFrom_22 : decode cX1_hasAllFrom 22 = .ok (.if_icmp .eq 5, 3) := fdf dAb_78.1
theorem dX1_hasAllFrom_25 : decode cX1_hasAllFrom 25 = .ok (.iconst 0, 1) := fdf dAb_78.2.1
theorem dX1_hasAllFrom_26 : decode cX1_hasAllFrom 26 = .ok (.ireturn, 1) := fdf dAb_78.2.2.1
theorem dX1_hasAllFrom_27 : decode cX1_hasAllFrom 27 = .ok (.iinc 3 1, 3) := fdf dAb_78.2.2.2.1
theorem dX1_hasAllFrom_30 : decode cX1_hasAllFrom 30 = .ok (.goto (-28), 3) := fdf dAb_78.2.2.2.2.1
theorem dX1_hasAllFrom_33 : decode cX1_hasAllFrom 33 = .ok (.iconst 1, 1) := fdf dAb_78.2.2.2.2.2.1
theorem dX1_hasAllFrom_34 : decode cX1_hasAllFrom 34 = .ok (.ireturn, 1) := fdf dAb_78.2.2.2.2.2.2.1
theorem dX1_areSame_0 : decode cX1_areSame 0 = .ok (.aload_n 0, 1) := fdf dAb_78.2.2.2.2.2.2.2.1
theorem dX1_areSame_1 : decode cX1_areSame 1 = .ok (.getfield 68, 3) := fdf dAb_78.2.2.2.2.2.2.2.2.1
theorem dX1_areSame_4 : decode cX1_areSame 4 = .ok (.aload_n 1, 1) := fdf dAb_78.2.2.2.2.2.2.2.2.2.1
theorem dX1_areSame_5 : decode cX1_areSame 5 = .ok (.getfield 68, 3) := fdf dAb_78.2.2.2.2.2.2.2.2.2.2.1
theorem dX1_areSame_8 : decode cX1_areSame 8 = .ok (.if_icmp .ne 16, 3) := fdf dAb_78.2.2.2.2.2.2.2.2.2.2.2.1
theorem dX1_areSame_11 : decode cX1_areSame 11 = .ok (.aload_n 0, 1) := fdf dAb_78.2.2.2.2.2.2.2.2.2.2.2.2.1
theorem dX1_areSame_12 : decode cX1_areSame 12 = .ok (.iconst 0, 1) := fdf dAb_78.2.2.2.2.2.2.2.2.2.2.2.2.2.1
theorem dX1_areSame_13 : decode cX1_areSame 13 = .ok (.aload_n 1, 1) := fdf dAb_78.2.2.2.2.2.2.2.2.2.2.2.2.2.2.1
theorem dX1_areSame_14 : decode cX1_areSame 14 = .ok (.invokestatic 94, 3) := fdf dAb_78.2.2.2.2.2.2.2.2.2.2.2.2.2.2.2
theorem dAb_79 : fdq cX1_areSame 17 (.ifCond .eq 7) 3 = true ∧ fdq cX1_areSame 20 (.iconst 1) 1 = true ∧ fdq cX1_areSame 21 (.goto 4) 3 = true ∧ fdq cX1_areSame 24 (.iconst 0) 1 = true ∧ fdq cX1_areSame 25 (.ireturn) 1 = true ∧ fdq cX1_hasOneOfTest 0 (.iconst 0) 1 = true ∧ fdq cX1_hasOneOfTest 1 (.istore_n 3) 1 = true ∧ fdq cX1_hasOneOfTest 2 (.iload_n 3) 1 = true ∧ fdq cX1_hasOneOfTest 3 (.aload_n 0) 1 = true ∧ fdq cX1_hasOneOfTest 4 (.getfield 68) 3 = true ∧ fdq cX1_hasOneOfTest 7 (.if_icmp .ge 24) 3 = true ∧ fdq cX1_hasOneOfTest 10 (.aload_n 0) 1 = true ∧ fdq cX1_hasOneOfTest 11 (.iload_n 3) 1 = true ∧ fdq cX1_hasOneOfTest 12 (.invokevirtual 59) 3 = true ∧ fdq cX1_hasOneOfTest 15 (.iload_n 1) 1 = true ∧ fdq cX1_hasOneOfTest 16 (.iload_n 2) 1 = true := by decide +kernel
theorem dX1_areSame_17 : decode cX1_areSame 17 = .ok (.ifCond .eq 7, 3) := fdf dAb_79.1
theorem dX1_areSame_20 : decode cX1_areSame 20 = .ok (.iconst 1, 1) := fdf dAb_79.2.1
theorem dX1_areSame_21 : decode cX1_areSame 21 = .ok (.goto 4, 3) := fdf dAb_79.2.2.1
theorem dX1_areSame_24 : decode cX1_areSame 24 = .ok (.iconst 0, 1) := fdf dAb_79.2.2.2.1
theorem dX1_areSame_25 : decode cX1_areSame 25 = .ok (.ireturn, 1) := fdf dAb_79.2.2.2.2.1
theorem dX1_hasOneOfTest_0 : decode cX1_hasOneOfTest 0 = .ok (.iconst 0, 1) := fdf dAb_79.2.2.2.2.2.1
theorem dX1_hasOneOfTest_1 : decode cX1_hasOneOfTest 1 = .ok (.istore_n 3, 1) := fdf dAb_79.2.2.2.2.2.2.1
theorem dX1_hasOneOfTest_2 : decode cX1_hasOneOfTest 2 = .ok (.iload_n 3, 1) := fdf dAb_79.2.2.2.2.2.2.2.1
theorem dX1_hasOneOfTest_3 : decode cX1_hasOneOfTest 3 = .ok (.aload_n 0, 1) := fdf dAb_79.2.2.2.2.2.2.2.2.1
theorem dX1_hasOneOfTest_4 : decode cX1_hasOneOfTest 4 = .ok (.getfield 68, 3) := fdf dAb_79.2.2.2.2.2.2.2.2.2.1
theorem dX1_hasOneOfTest_7 : decode cX1_hasOneOfTest 7 = .ok (.if_icmp .ge 24, 3) := fdf dAb_79.2.2.2.2.2.2.2.2.2.2.1
theorem dX1_hasOneOfTest_10 : decode cX1_hasOneOfTest 10 = .ok (.aload_n 0, 1) := fdf dAb_79.2.2.2.2.2.2.2.2.2.2.2.1
theorem dX1_hasOneOfTest_11 : decode cX1_hasOneOfTest 11 = .ok (.iload_n 3, 1) := fdf dAb_79.2.2.2.2.2.2.2.2.2.2.2.2.1
theorem dX1_hasOneOfTest_12 : decode cX1_hasOneOfTest 12 = .ok (.invokevirtual 59, 3) := fdf dAb_79.2.2.2.2.2.2.2.2.2.2.2.2.2.1
theorem dX1_hasOneOfTest_15 : decode cX1_hasOneOfTest 15 = .ok (.iload_n 1, 1) := fdf dAb_79.2.2.2.2.2.2.2.2.2.2.2.2.2.2.1
theorem dX1_hasOneOfTest_16 : decode cX1_hasOneOfTest 16 = .ok (.iload_n 2, 1) := fdf dAb_79.2.2.2.2.2.2.2.2.2.2.2.2.2.2.2
theorem dAb_80 : fdq cX1_hasOneOfTest 17 (.invokestatic 232) 3 = true ∧ fdq cX1_hasOneOfTest 20 (.ifCond .eq 5) 3 = true ∧ fdq cX1_hasOneOfTest 23 (.iconst 1) 1 = true ∧ fdq cX1_hasOneOfTest 24 (.ireturn) 1 = true ∧ fdq cX1_hasOneOfTest 25 (.iinc 3 1) 3 = true ∧ fdq cX1_hasOneOfTest 28 (.goto (-26)) 3 = true ∧ fdq cX1_hasOneOfTest 31 (.iconst 0) 1 = true ∧ fdq cX1_hasOneOfTest 32 (.ireturn) 1 = true ∧ fdq cX1_isOfTest 0 (.iload_n 1) 1 = true ∧ fdq cX1_isOfTest 28 (.iload_n 0) 1 = true ∧ fdq cX1_isOfTest 29 (.sipush (-1000)) 3 = true ∧ fdq cX1_isOfTest 32 (.if_icmp .ne 7) 3 = true ∧ fdq cX1_isOfTest 35 (.iconst 1) 1 = true ∧ fdq cX1_isOfTest 36 (.goto 4) 3 = true ∧ fdq cX1_isOfTest 39 (.iconst 0) 1 = true ∧ fdq cX1_isOfTest 40 (.ireturn) 1 = true := by decide +kernel
theorem dX1_hasOneOfTest_17 : decode cX1_hasOneOfTest 17 = .ok (.invokestatic 232, 3) := fdf dAb_80.1
theorem dX1_hasOneOfTest_20 : decode cX1_hasOneOfTest 20 = .ok (.ifCond .eq 5, 3) := fdf dAb_80.2.1
theorem dX1_hasOneOfTest_23 : decode cX1_hasOneOfTest 23 = .ok (.iconst 1, 1) := fdf dAb_80.2.2.1
theorem dX1_hasOneOfTest_24 : decode cX1_hasOneOfTest 24 = .ok (.ireturn, 1) := fdf dAb_80.2.2.2.1
theorem dX1_hasOneOfTest_25 : decode cX1_hasOneOfTest 25 = .ok (.iinc 3 1, 3) := fdf dAb_80.2.2.2.2.1
theorem dX1_hasOneOfTest_28 : decode cX1_hasOneOfTest 28 = .ok (.goto (-26), 3) := fdf dAb_80.2.2.2.2.2.1
theorem dX1_hasOneOfTest_31 : decode cX1_hasOneOfTest 31 = .ok (.iconst 0, 1) := fdf dAb_80.2.2.2.2.2.2.1
theorem dX1_hasOneOfTest_32 : decode cX1_hasOneOfTest 32 = .ok (.ireturn, 1) := fdf dAb_80.2.2.2.2.2.2.2.1
theorem dX1_isOfTest_0 : decode cX1_isOfTest 0 = .ok (.iload_n 1, 1) := fdf dAb_80.2.2.2.2.2.2.2.2.1
theorem dX1_isOfTest_28 : decode cX1_isOfTest 28 = .ok (.iload_n 0, 1) := fdf dAb_80.2.2.2.2.2.2.2.2.2.1
theorem dX1_isOfTest_29 : decode cX1_isOfTest 29 = .ok (.sipush (-1000), 3) := fdf dAb_80.2.2.2.2.2.2.2.2.2.2.1
theorem dX1_isOfTest_32 : decode cX1_isOfTest 32 = .ok (.if_icmp .ne 7, 3) := fdf dAb_80.2.2.2.2.2.2.2.2.2.2.2.1
theorem dX1_isOfTest_35 : decode cX1_isOfTest 35 = .ok (.iconst 1, 1) := fdf dAb_80.2.2.2.2.2.2.2.2.2.2.2.2.1
theorem dX1_isOfTest_36 : decode cX1_isOfTest 36 = .ok (.goto 4, 3) := fdf dAb_80.2.2.2.2.2.2.2.2.2.2.2.2.2.1
theorem dX1_isOfTest_39 : decode cX1_isOfTest 39 = .ok (.iconst 0, 1) := fdf dAb_80.2.2.2.2.2.2.2.2.2.2.2.2.2.2.1
theorem dX1_isOfTest_40 : decode cX1_isOfTest 40 = .ok (.ireturn, 1) := fdf dAb_80.2.2.2.2.2.2.2.2.2.2.2.2.2.2.2
theorem dAb_81 : fdq cX1_isOfTest 41 (.iload_n 0) 1 = true ∧ fdq cX1_isOfTest 42 (.iload_n 2) 1 = true ∧ fdq cX1_isOfTest 43 (.if_icmp .ne 7) 3 = true ∧ fdq cX1_isOfTest 46 (.iconst 1) 1 = true ∧ fdq cX1_isOfTest 47 (.goto 4) 3 = true ∧ fdq cX1_isOfTest 50 (.iconst 0) 1 = true ∧ fdq cX1_isOfTest 51 (.ireturn) 1 = true ∧ fdq cX1_isOfTest 52 (.iload_n 0) 1 = true ∧ fdq cX1_isOfTest 53 (.sipush (-1000)) 3 = true ∧ fdq cX1_isOfTest 56 (.if_icmp .eq 12) 3 = true ∧ fdq cX1_isOfTest 59 (.iload_n 0) 1 = true ∧ fdq cX1_isOfTest 60 (.iload_n 2) 1 = true ∧ fdq cX1_isOfTest 61 (.if_icmp .ge 7) 3 = true ∧ fdq cX1_isOfTest 64 (.iconst 1) 1 = true ∧ fdq cX1_isOfTest 65 (.goto 4) 3 = true ∧ fdq cX1_isOfTest 68 (.iconst 0) 1 = true := by decide +kernel
theorem dX1_isOfTest_41 : decode cX1_isOfTest 41 = .ok (.iload_n 0, 1) := fdf dAb_81.1
theorem dX1_isOfTest_42 : decode cX1_isOfTest 42 = .ok (.iload_n 2, 1) := fdf dAb_81.2.1
theorem dX1_isOfTest_43 : decode cX1_isOfTest 43 = .ok (.if_icmp .ne 7, 3) := fdf dAb_81.2.2.1
theorem dX1_isOfTest_46 : decode cX1_isOfTest 46 = .ok (.iconst 1, 1) := fdf dAb_81.2.2.2.1
theorem dX1_isOfTest_47 : decode cX1_isOfTest 47 = .ok (.goto 4, 3) := fdf dAb_81.2.2.2.2.1
theorem dX1_isOfTest_50 : decode cX1_isOfTest 50 = .ok (.iconst 0, 1) := fdf dAb_81.2.2.2.2.2.1
theorem dX1_isOfTest_51 : decode cX1_isOfTest 51 = .ok (.ireturn, 1) := fdf dAb_81.2.2.2.2.2.2.1
theorem dX1_isOfTest_52 : decode cX1_isOfTest 52 = .ok (.iload_n 0, 1) := fdf dAb_81.2.2.2.2.2.2.2.1
theorem dX1_isOfTest_53 : decode cX1_isOfTest 53 = .ok (.sipush (-1000), 3) := fdf dAb_81.2.2.2.2.2.2.2.2.1
theorem dX1_isOfTest_56 : decode cX1_isOfTest 56 = .ok (.if_icmp .eq 12, 3) := fdf dAb_81.2.2.2.2.2.2.2.2.2.1
theorem dX1_isOfTest_59 : decode cX1_isOfTest 59 = .ok (.iload_n 0, 1) := fdf dAb_81.2.2.2.2.2.2.2.2.2.2.1
theorem dX1_isOfTest_60 : decode cX1_isOfTest 60 = .ok (.iload_n 2, 1) := fdf dAb_81.2.2.2.2.2.2.2.2.2.2.2.1
theorem dX1_isOfTest_61 : decode cX1_isOfTest 61 = .ok (.if_icmp .ge 7, 3) := fdf dAb_81.2.2.2.2.2.2.2.2.2.2.2.2.1
theorem dX1_isOfTest_64 : decode cX1_isOfTest 64 = .ok (.iconst 1, 1) := fdf dAb_81.2.2.2.2.2.2.2.2.2.2.2.2.2.1
theorem dX1_isOfTest_65 : decode cX1_isOfTest 65 = .ok (.goto 4, 3) := fdf dAb_81.2.2.2.2.2.2.2.2.2.2.2.2.2.2.1
theorem dX1_isOfTest_68 : decode cX1_isOfTest 68 = .ok (.iconst 0, 1) := fdf dAb_81.2.2.2.2.2.2.2.2.2.2.2.2.2.2.2
theorem dAb_82 : fdq cX1_isOfTest 69 (.ireturn) 1 = true ∧ fdq cX1_writeAll 0 (.iconst 0) 1 = true ∧ fdq cX1_writeAll 1 (.istore_n 2) 1 = true ∧ fdq cX1_writeAll 2 (.iload_n 2) 1 = true ∧ fdq cX1_writeAll 3 (.aload_n 0) 1 = true ∧ fdq cX1_writeAll 4 (.getfield 68) 3 = true ∧ fdq cX1_writeAll 7 (.if_icmp .ge 16) 3 = true ∧ fdq cX1_writeAll 10 (.aload_n 0) 1 = true ∧ fdq cX1_writeAll 11 (.iload_n 2) 1 = true ∧ fdq cX1_writeAll 12 (.iload_n 1) 1 = true ∧ fdq cX1_writeAll 13 (.invokevirtual 55) 3 = true ∧ fdq cX1_writeAll 16 (.pop) 1 = true ∧ fdq cX1_writeAll 17 (.iinc 2 1) 3 = true ∧ fdq cX1_writeAll 20 (.goto (-18)) 3 = true ∧ fdq cX1_writeAll 23 (.return_) 1 = true ∧ fdq cX1_writeRuled 0 (.aload_n 0) 1 = true := by decide +kernel
theorem dX1_isOfTest_69 : decode cX1_isOfTest 69 = .ok (.ireturn, 1) := fdf dAb_82.1
theorem dX1_writeAll_0 : decode cX1_writeAll 0 = .ok (.iconst 0, 1) := fdf dAb_82.2.1
theorem dX1_writeAll_1 : decode cX1_writeAll 1 = .ok (.istore_n 2, 1) := fdf dAb_82.2.2.1
theorem dX1_writeAll_2 : decode cX1_writeAll 2 = .ok (.iload_n 2, 1) := fdf dAb_82.2.2.2.1
theorem dX1_writeAll_3 : decode cX1_writeAll 3 = .ok (.aload_n 0, 1) := fdf dAb_82.2.2.2.2.1
theorem dX1_writeAll_4 : decode cX1_writeAll 4 = .ok (.getfield 68, 3) := fdf dAb_82.2.2.2.2.2.1
theorem dX1_writeAll_7 : decode cX1_writeAll 7 = .ok (.if_icmp .ge 16, 3) := fdf dAb_82.2.2.2.2.2.2.1
theorem dX1_writeAll_10 : decode cX1_writeAll 10 = .ok (.aload_n 0, 1) := fdf dAb_82.2.2.2.2.2.2.2.1
theorem dX1_writeAll_11 : decode cX1_writeAll 11 = .ok (.iload_n 2, 1) := fdf dAb_82.2.2.2.2.2.2.2.2.1
theorem dX1_writeAll_12 : decode cX1_writeAll 12 = .ok (.iload_n 1, 1) := fdf dAb_82.2.2.2.2.2.2.2.2.2.1
theorem dX1_writeAll_13 : decode cX1_writeAll 13 = .ok (.invokevirtual 55, 3) := fdf dAb_82.2.2.2.2.2.2.2.2.2.2.1
theorem dX1_writeAll_16 : decode cX1_writeAll 16 = .ok (.pop, 1) := fdf dAb_82.2.2.2.2.2.2.2.2.2.2.2.1
theorem dX1_writeAll_17 : decode cX1_writeAll 17 = .ok (.iinc 2 1, 3) := fdf dAb_82.2.2.2.2.2.2.2.2.2.2.2.2.1
theorem dX1_writeAll_20 : decode cX1_writeAll 20 = .ok (.goto (-18), 3) := fdf dAb_82.2.2.2.2.2.2.2.2.2.2.2.2.2.1
theorem dX1_writeAll_23 : decode cX1_writeAll 23 = .ok (.return_, 1) := fdf dAb_82.2.2.2.2.2.2.2.2.2.2.2.2.2.2.1
theorem dX1_writeRuled_0 : decode cX1_writeRuled 0 = .ok (.aload_n 0, 1) := fdf dAb_82.2.2.2.2.2.2.2.2.2.2.2.2.2.2.2
theorem dAb_83 : fdq cX1_writeRuled 1 (.iload_n 1) 1 = true ∧ fdq cX1_writeRuled 2 (.iload 4) 2 = true ∧ fdq cX1_writeRuled 4 (.invokestatic 106) 3 = true ∧ fdq cX1_writeRuled 7 (.istore 5) 2 = true ∧ fdq cX1_writeRuled 9 (.iconst 0) 1 = true ∧ fdq cX1_writeRuled 10 (.istore 6) 2 = true ∧ fdq cX1_writeRuled 12 (.iload 6) 2 = true ∧ fdq cX1_writeRuled 14 (.iload 5) 2 = true ∧ fdq cX1_writeRuled 16 (.if_icmp .ge 37) 3 = true ∧ fdq cX1_writeRuled 19 (.iload_n 1) 1 = true ∧ fdq cX1_writeRuled 20 (.iload 6) 2 = true ∧ fdq cX1_writeRuled 22 (.iload 4) 2 = true ∧ fdq cX1_writeRuled 24 (.invokestatic 213) 3 = true ∧ fdq cX1_writeRuled 27 (.istore 7) 2 = true ∧ fdq cX1_writeRuled 29 (.aload_n 0) 1 = true ∧ fdq cX1_writeRuled 30 (.iload 7) 2 = true := by decide +kernel
theorem dX1_writeRuled_1 : decode cX1_writeRuled 1 = .ok (.iload_n 1, 1) := fdf dAb_83.1
theorem dX1_writeRuled_2 : decode cX1_writeRuled 2 = .ok (.iload 4, 2) := fdf dAb_83.2.1
theorem dX1_writeRuled_4 : decode cX1_writeRuled 4 = .ok (.invokestatic 106, 3) := fdf dAb_83.2.2.1
theorem dX1_writeRuled_7 : decode cX1_writeRuled 7 = .ok (.istore 5, 2) := fdf dAb_83.2.2.2.1
theorem dX1_writeRuled_9 : decode cX1_writeRuled 9 = .ok (.iconst 0, 1) := fdf dAb_83.2.2.2.2.1
theorem dX1_writeRuled_10 : decode cX1_writeRuled 10 = .ok (.istore 6, 2) := fdf dAb_83.2.2.2.2.2.1
theorem dX1_writeRuled_12 : decode cX1_writeRuled 12 = .ok (.iload 6, 2) := fdf dAb_83.2.2.2.2.2.2.1
theorem dX1_writeRuled_14 : decode cX1_writeRuled 14 = .ok (.iload 5, 2) := fdf dAb_83.2.2.2.2.2.2.2.1
theorem dX1_writeRuled_16 : decode cX1_writeRuled 16 = .ok (.if_icmp .ge 37, 3) := fdf dAb_83.2.2.2.2.2.2.2.2.1
theorem dX1_writeRuled_19 : decode cX1_writeRuled 19 = .ok (.iload_n 1, 1) := fdf dAb_83.2.2.2.2.2.2.2.2.2.1
theorem dX1_writeRuled_20 : decode cX1_writeRuled 20 = .ok (.iload 6, 2) := fdf dAb_83.2.2.2.2.2.2.2.2.2.2.1
theorem dX1_writeRuled_22 : decode cX1_writeRuled 22 = .ok (.iload 4, 2) := fdf dAb_83.2.2.2.2.2.2.2.2.2.2.2.1
theorem dX1_writeRuled_24 : decode cX1_writeRuled 24 = .ok (.invokestatic 213, 3) := fdf dAb_83.2.2.2.2.2.2.2.2.2.2.2.2.1
theorem dX1_writeRuled_27 : decode cX1_writeRuled 27 = .ok (.istore 7, 2) := fdf dAb_83.2.2.2.2.2.2.2.2.2.2.2.2.2.1
theorem dX1_writeRuled_29 : decode cX1_writeRuled 29 = .ok (.aload_n 0, 1) := fdf dAb_83.2.2.2.2.2.2.2.2.2.2.2.2.2.2.1
theorem dX1_writeRuled_30 : decode cX1_writeRuled 30 = .ok (.iload 7, 2) := fdf dAb_83.2.2.2.2.2.2.2.2.2.2.2.2.2.2.2
theorem dAb_84 : fdq cX1_writeRuled 32 (.aload_n 0) 1 = true ∧ fdq cX1_writeRuled 33 (.iload 7) 2 = true ∧ fdq cX1_writeRuled 35 (.invokevirtual 59) 3 = true ∧ fdq cX1_writeRuled 38 (.iload_n 2) 1 = true ∧ fdq cX1_writeRuled 39 (.iload_n 3) 1 = true ∧ fdq cX1_writeRuled 40 (.invokestatic 236) 3 = true ∧ fdq cX1_writeRuled 43 (.invokevirtual 55) 3 = true ∧ fdq cX1_writeRuled 46 (.pop) 1 = true ∧ fdq cX1_writeRuled 47 (.iinc 6 1) 3 = true ∧ fdq cX1_writeRuled 50 (.goto (-38)) 3 = true ∧ fdq cX1_writeRuled 53 (.iload 5) 2 = true ∧ fdq cX1_writeRuled 55 (.ireturn) 1 = true ∧ fdq cX1_ruled 0 (.iload_n 0) 1 = true ∧ fdq cX1_ruled 1 (.invokestatic 115) 3 = true ∧ fdq cX1_ruled 4 (.istore_n 3) 1 = true ∧ fdq cX1_ruled 5 (.iload_n 1) 1 = true := by decide +kernel
theorem dX1_writeRuled_32 : decode cX1_writeRuled 32 = .ok (.aload_n 0, 1) := fdf dAb_84.1
theorem dX1_writeRuled_33 : decode cX1_writeRuled 33 = .ok (.iload 7, 2) := fdf dAb_84.2.1
theorem dX1_writeRuled_35 : decode cX1_writeRuled 35 = .ok (.invokevirtual 59, 3) := fdf dAb_84.2.2.1
theorem dX1_writeRuled_38 : decode cX1_writeRuled 38 = .ok (.iload_n 2, 1) := fdf dAb_84.2.2.2.1
theorem dX1_writeRuled_39 : decode cX1_writeRuled 39 = .ok (.iload_n 3, 1) := fdf dAb_84.2.2.2.2.1
theorem dX1_writeRuled_40 : decode cX1_writeRuled 40 = .ok (.invokestatic 236, 3) := fdf dAb_84.2.2.2.2.2.1
theorem dX1_writeRuled_43 : decode cX1_writeRuled 43 = .ok (.invokevirtual 55, 3) := fdf dAb_84.2.2.2.2.2.2.1
theorem dX1_writeRuled_46 : decode cX1_writeRuled 46 = .ok (.pop, 1) := fdf dAb_84.2.2.2.2.2.2.2.1
theorem dX1_writeRuled_47 : decode cX1_writeRuled 47 = .ok (.iinc 6 1, 3) := fdf dAb_84.2.2.2.2.2.2.2.2.1
theorem dX1_writeRuled_50 : decode cX1_writeRuled 50 = .ok (.goto (-38), 3) := fdf dAb_84.2.2.2.2.2.2.2.2.2.1
theorem dX1_writeRuled_53 : decode cX1_writeRuled 53 = .ok (.iload 5, 2) := fdf dAb_84.2.2.2.2.2.2.2.2.2.2.1
theorem dX1_writeRuled_55 : decode cX1_writeRuled 55 = .ok (.ireturn, 1) := fdf dAb_84.2.2.2.2.2.2.2.2.2.2.2.1
theorem dX1_ruled_0 : decode cX1_ruled 0 = .ok (.iload_n 0, 1) := fdf dAb_84.2.2.2.2.2.2.2.2.2.2.2.2.1
theorem dX1_ruled_1 : decode cX1_ruled 1 = .ok (.invokestatic 115, 3) := fdf dAb_84.2.2.2.2.2.2.2.2.2.2.2.2.2.1
theorem dX1_ruled_4 : decode cX1_ruled 4 = .ok (.istore_n 3, 1) := fdf dAb_84.2.2.2.2.2.2.2.2.2.2.2.2.2.2.1
theorem dX1_ruled_5 : decode cX1_ruled 5 = .ok (.iload_n 1, 1) := fdf dAb_84.2.2.2.2.2.2.2.2.2.2.2.2.2.2.2
theorem dAb_85 : fdq cX1_ruled 32 (.iload_n 3) 1 = true ∧ fdq cX1_ruled 33 (.iload_n 2) 1 = true ∧ fdq cX1_ruled 34 (.iadd) 1 = true ∧ fdq cX1_ruled 35 (.invokestatic 240) 3 = true ∧ fdq cX1_ruled 38 (.ireturn) 1 = true ∧ fdq cX1_ruled 39 (.iload_n 3) 1 = true ∧ fdq cX1_ruled 40 (.iload_n 2) 1 = true ∧ fdq cX1_ruled 41 (.invokestatic 243) 3 = true ∧ fdq cX1_ruled 44 (.ireturn) 1 = true ∧ fdq cX1_ruled 45 (.iload_n 3) 1 = true ∧ fdq cX1_ruled 46 (.iload_n 2) 1 = true ∧ fdq cX1_ruled 47 (.imul) 1 = true ∧ fdq cX1_ruled 48 (.invokestatic 240) 3 = true ∧ fdq cX1_ruled 51 (.ireturn) 1 = true ∧ fdq cX1_ruled 52 (.iload_n 3) 1 = true ∧ fdq cX1_ruled 53 (.iload_n 2) 1 = true := by decide +kernel
theorem dX1_ruled_32 : decode cX1_ruled 32 = .ok (.iload_n 3, 1) := fdf dAb_85.1
theorem dX1_ruled_33 : decode cX1_ruled 33 = .ok (.iload_n 2, 1) := fdf dAb_85.2.1
theorem dX1_ruled_34 : decode cX1_ruled 34 = .ok (.iadd, 1) := fdf dAb_85.2.2.1
theorem dX1_ruled_35 : decode cX1_ruled 35 = .ok (.invokestatic 240, 3) := fdf dAb_85.2.2.2.1
theorem dX1_ruled_38 : decode cX1_ruled 38 = .ok (.ireturn, 1) := fdf dAb_85.2.2.2.2.1
theorem dX1_ruled_39 : decode cX1_ruled 39 = .ok (.iload_n 3, 1) := fdf dAb_85.2.2.2.2.2.1
theorem dX1_ruled_40 : decode cX1_ruled 40 = .ok (.iload_n 2, 1) := fdf dAb_85.2.2.2.2.2.2.1
theorem dX1_ruled_41 : decode cX1_ruled 41 = .ok (.invokestatic 243, 3) := fdf dAb_85.2.2.2.2.2.2.2.1
theorem dX1_ruled_44 : decode cX1_ruled 44 = .ok (.ireturn, 1) := fdf dAb_85.2.2.2.2.2.2.2.2.1
theorem dX1_ruled_45 : decode cX1_ruled 45 = .ok (.iload_n 3, 1) := fdf dAb_85.2.2.2.2.2.2.2.2.2.1
theorem dX1_ruled_46 : decode cX1_ruled 46 = .ok (.iload_n 2, 1) := fdf dAb_85.2.2.2.2.2.2.2.2.2.2.1
theorem dX1_ruled_47 : decode cX1_ruled 47 = .ok (.imul, 1) := fdf dAb_85.2.2.2.2.2.2.2.2.2.2.2.1
theorem dX1_ruled_48 : decode cX1_ruled 48 = .ok (.invokestatic 240, 3) := fdf dAb_85.2.2.2.2.2.2.2.2.2.2.2.2.1
theorem dX1_ruled_51 : decode cX1_ruled 51 = .ok (.ireturn, 1) := fdf dAb_85.2.2.2.2.2.2.2.2.2.2.2.2.2.1
theorem dX1_ruled_52 : decode cX1_ruled 52 = .ok (.iload_n 3, 1) := fdf dAb_85.2.2.2.2.2.2.2.2.2.2.2.2.2.2.1
theorem dX1_ruled_53 : decode cX1_ruled 53 = .ok (.iload_n 2, 1) := fdf dAb_85.2.2.2.2.2.2.2.2.2.2.2.2.2.2.2
theorem dAb_86 : fdq cX1_ruled 54 (.if_icmp .ne 9) 3 = true ∧ fdq cX1_ruled 57 (.sipush (-1000)) 3 = true ∧ fdq cX1_ruled 60 (.goto 4) 3 = true ∧ fdq cX1_ruled 63 (.iload_n 3) 1 = true ∧ fdq cX1_ruled 64 (.ireturn) 1 = true ∧ fdq cX1_withinNumbers 0 (.bipush (-99)) 2 = true ∧ fdq cX1_withinNumbers 2 (.bipush 99) 2 = true ∧ fdq cX1_withinNumbers 4 (.iload_n 0) 1 = true ∧ fdq cX1_withinNumbers 5 (.invokestatic 110) 3 = true ∧ fdq cX1_withinNumbers 8 (.invokestatic 243) 3 = true ∧ fdq cX1_withinNumbers 11 (.ireturn) 1 = true ∧ fdq cX1_sink 0 (.iload_n 1) 1 = true ∧ fdq cX1_sink 1 (.istore_n 3) 1 = true ∧ fdq cX1_sink 2 (.iload_n 3) 1 = true ∧ fdq cX1_sink 3 (.ifCond .le 52) 3 = true ∧ fdq cX1_sink 6 (.aload_n 0) 1 = true := by decide +kernel
theorem dX1_ruled_54 : decode cX1_ruled 54 = .ok (.if_icmp .ne 9, 3) := fdf dAb_86.1
theorem dX1_ruled_57 : decode cX1_ruled 57 = .ok (.sipush (-1000), 3) := fdf dAb_86.2.1
theorem dX1_ruled_60 : decode cX1_ruled 60 = .ok (.goto 4, 3) := fdf dAb_86.2.2.1
theorem dX1_ruled_63 : decode cX1_ruled 63 = .ok (.iload_n 3, 1) := fdf dAb_86.2.2.2.1
theorem dX1_ruled_64 : decode cX1_ruled 64 = .ok (.ireturn, 1) := fdf dAb_86.2.2.2.2.1
theorem dX1_withinNumbers_0 : decode cX1_withinNumbers 0 = .ok (.bipush (-99), 2) := fdf dAb_86.2.2.2.2.2.1
theorem dX1_withinNumbers_2 : decode cX1_withinNumbers 2 = .ok (.bipush 99, 2) := fdf dAb_86.2.2.2.2.2.2.1
theorem dX1_withinNumbers_4 : decode cX1_withinNumbers 4 = .ok (.iload_n 0, 1) := fdf dAb_86.2.2.2.2.2.2.2.1
theorem dX1_withinNumbers_5 : decode cX1_withinNumbers 5 = .ok (.invokestatic 110, 3) := fdf dAb_86.2.2.2.2.2.2.2.2.1
theorem dX1_withinNumbers_8 : decode cX1_withinNumbers 8 = .ok (.invokestatic 243, 3) := fdf dAb_86.2.2.2.2.2.2.2.2.2.1
theorem dX1_withinNumbers_11 : decode cX1_withinNumbers 11 = .ok (.ireturn, 1) := fdf dAb_86.2.2.2.2.2.2.2.2.2.2.1
theorem dX1_sink_0 : decode cX1_sink 0 = .ok (.iload_n 1, 1) := fdf dAb_86.2.2.2.2.2.2.2.2.2.2.2.1
theorem dX1_sink_1 : decode cX1_sink 1 = .ok (.istore_n 3, 1) := fdf dAb_86.2.2.2.2.2.2.2.2.2.2.2.2.1
theorem dX1_sink_2 : decode cX1_sink 2 = .ok (.iload_n 3, 1) := fdf dAb_86.2.2.2.2.2.2.2.2.2.2.2.2.2.1
theorem dX1_sink_3 : decode cX1_sink 3 = .ok (.ifCond .le 52, 3) := fdf dAb_86.2.2.2.2.2.2.2.2.2.2.2.2.2.2.1
theorem dX1_sink_6 : decode cX1_sink 6 = .ok (.aload_n 0, 1) := fdf dAb_86.2.2.2.2.2.2.2.2.2.2.2.2.2.2.2
theorem dAb_87 : fdq cX1_sink 7 (.iload_n 3) 1 = true ∧ fdq cX1_sink 8 (.invokevirtual 59) 3 = true ∧ fdq cX1_sink 11 (.aload_n 0) 1 = true ∧ fdq cX1_sink 12 (.iload_n 3) 1 = true ∧ fdq cX1_sink 13 (.iconst 1) 1 = true ∧ fdq cX1_sink 14 (.isub) 1 = true ∧ fdq cX1_sink 15 (.invokevirtual 59) 3 = true ∧ fdq cX1_sink 18 (.invokestatic 246) 3 = true ∧ fdq cX1_sink 21 (.istore 4) 2 = true ∧ fdq cX1_sink 23 (.iload_n 2) 1 = true ∧ fdq cX1_sink 24 (.ifCond .eq 11) 3 = true ∧ fdq cX1_sink 27 (.iload 4) 2 = true ∧ fdq cX1_sink 29 (.ifCond .gt 12) 3 = true ∧ fdq cX1_sink 32 (.goto 8) 3 = true ∧ fdq cX1_sink 35 (.iload 4) 2 = true ∧ fdq cX1_sink 37 (.ifCond .lt 4) 3 = true := by decide +kernel
theorem dX1_sink_7 : decode cX1_sink 7 = .ok (.iload_n 3, 1) := fdf dAb_87.1
theorem dX1_sink_8 : decode cX1_sink 8 = .ok (.invokevirtual 59, 3) := fdf dAb_87.2.1
theorem dX1_sink_11 : decode cX1_sink 11 = .ok (.aload_n 0, 1) := fdf dAb_87.2.2.1
theorem dX1_sink_12 : decode cX1_sink 12 = .ok (.iload_n 3, 1) := fdf dAb_87.2.2.2.1
theorem dX1_sink_13 : decode cX1_sink 13 = .ok (.iconst 1, 1) := fdf dAb_87.2.2.2.2.1
theorem dX1_sink_14 : decode cX1_sink 14 = .ok (.isub, 1) := fdf dAb_87.2.2.2.2.2.1
theorem dX1_sink_15 : decode cX1_sink 15 = .ok (.invokevirtual 59, 3) := fdf dAb_87.2.2.2.2.2.2.1
theorem dX1_sink_18 : decode cX1_sink 18 = .ok (.invokestatic 246, 3) := fdf dAb_87.2.2.2.2.2.2.2.1
theorem dX1_sink_21 : decode cX1_sink 21 = .ok (.istore 4, 2) := fdf dAb_87.2.2.2.2.2.2.2.2.1
theorem dX1_sink_23 : decode cX1_sink 23 = .ok (.iload_n 2, 1) := fdf dAb_87.2.2.2.2.2.2.2.2.2.1
theorem dX1_sink_24 : decode cX1_sink 24 = .ok (.ifCond .eq 11, 3) := fdf dAb_87.2.2.2.2.2.2.2.2.2.2.1
theorem dX1_sink_27 : decode cX1_sink 27 = .ok (.iload 4, 2) := fdf dAb_87.2.2.2.2.2.2.2.2.2.2.2.1
theorem dX1_sink_29 : decode cX1_sink 29 = .ok (.ifCond .gt 12, 3) := fdf dAb_87.2.2.2.2.2.2.2.2.2.2.2.2.1
theorem dX1_sink_32 : decode cX1_sink 32 = .ok (.goto 8, 3) := fdf dAb_87.2.2.2.2.2.2.2.2.2.2.2.2.2.1
theorem dX1_sink_35 : decode cX1_sink 35 = .ok (.iload 4, 2) := fdf dAb_87.2.2.2.2.2.2.2.2.2.2.2.2.2.2.1
theorem dX1_sink_37 : decode cX1_sink 37 = .ok (.ifCond .lt 4, 3) := fdf dAb_87.2.2.2.2.2.2.2.2.2.2.2.2.2.2.2
theorem dAb_88 : fdq cX1_sink 40 (.return_) 1 = true ∧ fdq cX1_sink 41 (.aload_n 0) 1 = true ∧ fdq cX1_sink 42 (.iload_n 3) 1 = true ∧ fdq cX1_sink 43 (.iload_n 3) 1 = true ∧ fdq cX1_sink 44 (.iconst 1) 1 = true ∧ fdq cX1_sink 45 (.isub) 1 = true ∧ fdq cX1_sink 46 (.invokevirtual 137) 3 = true ∧ fdq cX1_sink 49 (.iinc 3 (-1)) 3 = true ∧ fdq cX1_sink 52 (.goto (-50)) 3 = true ∧ fdq cX1_sink 55 (.return_) 1 = true ∧ fdq cX1_turn 0 (.iload_n 2) 1 = true ∧ fdq cX1_turn 1 (.iconst 1) 1 = true ∧ fdq cX1_turn 2 (.isub) 1 = true ∧ fdq cX1_turn 3 (.istore_n 3) 1 = true ∧ fdq cX1_turn 4 (.iload_n 1) 1 = true ∧ fdq cX1_turn 5 (.istore 4) 2 = true := by decide +kernel
theorem dX1_sink_40 : decode cX1_sink 40 = .ok (.return_, 1) := fdf dAb_88.1
theorem dX1_sink_41 : decode cX1_sink 41 = .ok (.aload_n 0, 1) := fdf dAb_88.2.1
theorem dX1_sink_42 : decode cX1_sink 42 = .ok (.iload_n 3, 1) := fdf dAb_88.2.2.1
theorem dX1_sink_43 : decode cX1_sink 43 = .ok (.iload_n 3, 1) := fdf dAb_88.2.2.2.1
theorem dX1_sink_44 : decode cX1_sink 44 = .ok (.iconst 1, 1) := fdf dAb_88.2.2.2.2.1
theorem dX1_sink_45 : decode cX1_sink 45 = .ok (.isub, 1) := fdf dAb_88.2.2.2.2.2.1
theorem dX1_sink_46 : decode cX1_sink 46 = .ok (.invokevirtual 137, 3) := fdf dAb_88.2.2.2.2.2.2.1
theorem dX1_sink_49 : decode cX1_sink 49 = .ok (.iinc 3 (-1), 3) := fdf dAb_88.2.2.2.2.2.2.2.1
theorem dX1_sink_52 : decode cX1_sink 52 = .ok (.goto (-50), 3) := fdf dAb_88.2.2.2.2.2.2.2.2.1
theorem dX1_sink_55 : decode cX1_sink 55 = .ok (.return_, 1) := fdf dAb_88.2.2.2.2.2.2.2.2.2.1
theorem dX1_turn_0 : decode cX1_turn 0 = .ok (.iload_n 2, 1) := fdf dAb_88.2.2.2.2.2.2.2.2.2.2.1
theorem dX1_turn_1 : decode cX1_turn 1 = .ok (.iconst 1, 1) := fdf dAb_88.2.2.2.2.2.2.2.2.2.2.2.1
theorem dX1_turn_2 : decode cX1_turn 2 = .ok (.isub, 1) := fdf dAb_88.2.2.2.2.2.2.2.2.2.2.2.2.1
theorem dX1_turn_3 : decode cX1_turn 3 = .ok (.istore_n 3, 1) := fdf dAb_88.2.2.2.2.2.2.2.2.2.2.2.2.2.1
theorem dX1_turn_4 : decode cX1_turn 4 = .ok (.iload_n 1, 1) := fdf dAb_88.2.2.2.2.2.2.2.2.2.2.2.2.2.2.1
theorem dX1_turn_5 : decode cX1_turn 5 = .ok (.istore 4, 2) := fdf dAb_88.2.2.2.2.2.2.2.2.2.2.2.2.2.2.2
theorem dAb_89 : fdq cX1_turn 7 (.iload 4) 2 = true ∧ fdq cX1_turn 9 (.iload_n 3) 1 = true ∧ fdq cX1_turn 10 (.if_icmp .ge 19) 3 = true ∧ fdq cX1_turn 13 (.aload_n 0) 1 = true ∧ fdq cX1_turn 14 (.iload 4) 2 = true ∧ fdq cX1_turn 16 (.iload_n 3) 1 = true ∧ fdq cX1_turn 17 (.invokevirtual 137) 3 = true ∧ fdq cX1_turn 20 (.iinc 3 (-1)) 3 = true ∧ fdq cX1_turn 23 (.iinc 4 1) 3 = true ∧ fdq cX1_turn 26 (.goto (-19)) 3 = true ∧ fdq cX1_turn 29 (.return_) 1 = true ∧ fdq cX1_isSoundList 0 (.aload_n 0) 1 = true ∧ fdq cX1_isSoundList 1 (.aload_n 1) 1 = true ∧ fdq cX1_isSoundList 2 (.getfield 158) 3 = true ∧ fdq cX1_isSoundList 5 (.invokevirtual 155) 3 = true ∧ fdq cX1_isSoundList 8 (.astore_n 2) 1 = true := by decide +kernel
theorem dX1_turn_7 : decode cX1_turn 7 = .ok (.iload 4, 2) := fdf dAb_89.1
theorem dX1_turn_9 : decode cX1_turn 9 = .ok (.iload_n 3, 1) := fdf dAb_89.2.1
theorem dX1_turn_10 : decode cX1_turn 10 = .ok (.if_icmp .ge 19, 3) := fdf dAb_89.2.2.1
theorem dX1_turn_13 : decode cX1_turn 13 = .ok (.aload_n 0, 1) := fdf dAb_89.2.2.2.1
theorem dX1_turn_14 : decode cX1_turn 14 = .ok (.iload 4, 2) := fdf dAb_89.2.2.2.2.1
theorem dX1_turn_16 : decode cX1_turn 16 = .ok (.iload_n 3, 1) := fdf dAb_89.2.2.2.2.2.1
theorem dX1_turn_17 : decode cX1_turn 17 = .ok (.invokevirtual 137, 3) := fdf dAb_89.2.2.2.2.2.2.1
theorem dX1_turn_20 : decode cX1_turn 20 = .ok (.iinc 3 (-1), 3) := fdf dAb_89.2.2.2.2.2.2.2.1
theorem dX1_turn_23 : decode cX1_turn 23 = .ok (.iinc 4 1, 3) := fdf dAb_89.2.2.2.2.2.2.2.2.1
theorem dX1_turn_26 : decode cX1_turn 26 = .ok (.goto (-19), 3) := fdf dAb_89.2.2.2.2.2.2.2.2.2.1
theorem dX1_turn_29 : decode cX1_turn 29 = .ok (.return_, 1) := fdf dAb_89.2.2.2.2.2.2.2.2.2.2.1
theorem dX1_isSoundList_0 : decode cX1_isSoundList 0 = .ok (.aload_n 0, 1) := fdf dAb_89.2.2.2.2.2.2.2.2.2.2.2.1
theorem dX1_isSoundList_1 : decode cX1_isSoundList 1 = .ok (.aload_n 1, 1) := fdf dAb_89.2.2.2.2.2.2.2.2.2.2.2.2.1
theorem dX1_isSoundList_2 : decode cX1_isSoundList 2 = .ok (.getfield 158, 3) := fdf dAb_89.2.2.2.2.2.2.2.2.2.2.2.2.2.1
theorem dX1_isSoundList_5 : decode cX1_isSoundList 5 = .ok (.invokevirtual 155, 3) := fdf dAb_89.2.2.2.2.2.2.2.2.2.2.2.2.2.2.1
theorem dX1_isSoundList_8 : decode cX1_isSoundList 8 = .ok (.astore_n 2, 1) := fdf dAb_89.2.2.2.2.2.2.2.2.2.2.2.2.2.2.2
theorem dAb_90 : fdq cX1_isSoundList 9 (.aload_n 2) 1 = true ∧ fdq cX1_isSoundList 10 (.ifnull 37) 3 = true ∧ fdq cX1_isSoundList 13 (.aload_n 1) 1 = true ∧ fdq cX1_isSoundList 14 (.aload_n 2) 1 = true ∧ fdq cX1_isSoundList 15 (.invokestatic 251) 3 = true ∧ fdq cX1_isSoundList 18 (.ifCond .eq 29) 3 = true ∧ fdq cX1_isSoundList 21 (.aload_n 0) 1 = true ∧ fdq cX1_isSoundList 22 (.aload_n 1) 1 = true ∧ fdq cX1_isSoundList 23 (.invokevirtual 254) 3 = true ∧ fdq cX1_isSoundList 26 (.ifCond .eq 21) 3 = true ∧ fdq cX1_isSoundList 29 (.aload_n 1) 1 = true ∧ fdq cX1_isSoundList 30 (.invokestatic 257) 3 = true ∧ fdq cX1_isSoundList 33 (.ifCond .eq 14) 3 = true ∧ fdq cX1_isSoundList 36 (.aload_n 1) 1 = true ∧ fdq cX1_isSoundList 37 (.invokestatic 260) 3 = true ∧ fdq cX1_isSoundList 40 (.ifCond .eq 7) 3 = true := by decide +kernel
theorem dX1_isSoundList_9 : decode cX1_isSoundList 9 = .ok (.aload_n 2, 1) := fdf dAb_90.1
theorem dX1_isSoundList_10 : decode cX1_isSoundList 10 = .ok (.ifnull 37, 3) := fdf dAb_90.2.1
theorem dX1_isSoundList_13 : decode cX1_isSoundList 13 = .ok (.aload_n 1, 1) := fdf dAb_90.2.2.1
theorem dX1_isSoundList_14 : decode cX1_isSoundList 14 = .ok (.aload_n 2, 1) := fdf dAb_90.2.2.2.1
theorem dX1_isSoundList_15 : decode cX1_isSoundList 15 = .ok (.invokestatic 251, 3) := fdf dAb_90.2.2.2.2.1
theorem dX1_isSoundList_18 : decode cX1_isSoundList 18 = .ok (.ifCond .eq 29, 3) := fdf dAb_90.2.2.2.2.2.1
theorem dX1_isSoundList_21 : decode cX1_isSoundList 21 = .ok (.aload_n 0, 1) := fdf dAb_90.2.2.2.2.2.2.1
theorem dX1_isSoundList_22 : decode cX1_isSoundList 22 = .ok (.aload_n 1, 1) := fdf dAb_90.2.2.2.2.2.2.2.1
theorem dX1_isSoundList_23 : decode cX1_isSoundList 23 = .ok (.invokevirtual 254, 3) := fdf dAb_90.2.2.2.2.2.2.2.2.1
theorem dX1_isSoundList_26 : decode cX1_isSoundList 26 = .ok (.ifCond .eq 21, 3) := fdf dAb_90.2.2.2.2.2.2.2.2.2.1
theorem dX1_isSoundList_29 : decode cX1_isSoundList 29 = .ok (.aload_n 1, 1) := fdf dAb_90.2.2.2.2.2.2.2.2.2.2.1
theorem dX1_isSoundList_30 : decode cX1_isSoundList 30 = .ok (.invokestatic 257, 3) := fdf dAb_90.2.2.2.2.2.2.2.2.2.2.2.1
theorem dX1_isSoundList_33 : decode cX1_isSoundList 33 = .ok (.ifCond .eq 14, 3) := fdf dAb_90.2.2.2.2.2.2.2.2.2.2.2.2.1
theorem dX1_isSoundList_36 : decode cX1_isSoundList 36 = .ok (.aload_n 1, 1) := fdf dAb_90.2.2.2.2.2.2.2.2.2.2.2.2.2.1
theorem dX1_isSoundList_37 : decode cX1_isSoundList 37 = .ok (.invokestatic 260, 3) := fdf dAb_90.2.2.2.2.2.2.2.2.2.2.2.2.2.2.1
theorem dX1_isSoundList_40 : decode cX1_isSoundList 40 = .ok (.ifCond .eq 7, 3) := fdf dAb_90.2.2.2.2.2.2.2.2.2.2.2.2.2.2.2
theorem dAb_91 : fdq cX1_isSoundList 43 (.iconst 1) 1 = true ∧ fdq cX1_isSoundList 44 (.goto 4) 3 = true ∧ fdq cX1_isSoundList 47 (.iconst 0) 1 = true ∧ fdq cX1_isSoundList 48 (.ireturn) 1 = true ∧ fdq cX1_isInRow 0 (.aload_n 0) 1 = true ∧ fdq cX1_isInRow 1 (.getfield 161) 3 = true ∧ fdq cX1_isInRow 4 (.aload_n 0) 1 = true ∧ fdq cX1_isInRow 5 (.getfield 68) 3 = true ∧ fdq cX1_isInRow 8 (.iadd) 1 = true ∧ fdq cX1_isInRow 9 (.aload_n 1) 1 = true ∧ fdq cX1_isInRow 10 (.getfield 68) 3 = true ∧ fdq cX1_isInRow 13 (.if_icmp .le 5) 3 = true ∧ fdq cX1_isInRow 16 (.iconst 0) 1 = true ∧ fdq cX1_isInRow 17 (.ireturn) 1 = true ∧ fdq cX1_isInRow 18 (.iconst 0) 1 = true ∧ fdq cX1_isInRow 19 (.istore_n 2) 1 = true := by decide +kernel
theorem dX1_isSoundList_43 : decode cX1_isSoundList 43 = .ok (.iconst 1, 1) := fdf dAb_91.1
theorem dX1_isSoundList_44 : decode cX1_isSoundList 44 = .ok (.goto 4, 3) := fdf dAb_91.2.1
theorem dX1_isSoundList_47 : decode cX1_isSoundList 47 = .ok (.iconst 0, 1) := fdf dAb_91.2.2.1
theorem dX1_isSoundList_48 : decode cX1_isSoundList 48 = .ok (.ireturn, 1) := fdf dAb_91.2.2.2.1
theorem dX1_isInRow_0 : decode cX1_isInRow 0 = .ok (.aload_n 0, 1) := fdf dAb_91.2.2.2.2.1
theorem dX1_isInRow_1 : decode cX1_isInRow 1 = .ok (.getfield 161, 3) := fdf dAb_91.2.2.2.2.2.1
theorem dX1_isInRow_4 : decode cX1_isInRow 4 = .ok (.aload_n 0, 1) := fdf dAb_91.2.2.2.2.2.2.1
theorem dX1_isInRow_5 : decode cX1_isInRow 5 = .ok (.getfield 68, 3) := fdf dAb_91.2.2.2.2.2.2.2.1
theorem dX1_isInRow_8 : decode cX1_isInRow 8 = .ok (.iadd, 1) := fdf dAb_91.2.2.2.2.2.2.2.2.1
theorem dX1_isInRow_9 : decode cX1_isInRow 9 = .ok (.aload_n 1, 1) := fdf dAb_91.2.2.2.2.2.2.2.2.2.1
theorem dX1_isInRow_10 : decode cX1_isInRow 10 = .ok (.getfield 68, 3) := fdf dAb_91.2.2.2.2.2.2.2.2.2.2.1
theorem dX1_isInRow_13 : decode cX1_isInRow 13 = .ok (.if_icmp .le 5, 3) := fdf dAb_91.2.2.2.2.2.2.2.2.2.2.2.1
theorem dX1_isInRow_16 : decode cX1_isInRow 16 = .ok (.iconst 0, 1) := fdf dAb_91.2.2.2.2.2.2.2.2.2.2.2.2.1
theorem dX1_isInRow_17 : decode cX1_isInRow 17 = .ok (.ireturn, 1) := fdf dAb_91.2.2.2.2.2.2.2.2.2.2.2.2.2.1
theorem dX1_isInRow_18 : decode cX1_isInRow 18 = .ok (.iconst 0, 1) := fdf dAb_91.2.2.2.2.2.2.2.2.2.2.2.2.2.2.1
theorem dX1_isInRow_19 : decode cX1_isInRow 19 = .ok (.istore_n 2, 1) := fdf dAb_91.2.2.2.2.2.2.2.2.2.2.2.2.2.2.2
theorem dAb_92 : fdq cX1_isInRow 20 (.iload_n 2) 1 = true ∧ fdq cX1_isInRow 21 (.aload_n 0) 1 = true ∧ fdq cX1_isInRow 22 (.getfield 68) 3 = true ∧ fdq cX1_isInRow 25 (.if_icmp .ge 29) 3 = true ∧ fdq cX1_isInRow 28 (.aload_n 0) 1 = true ∧ fdq cX1_isInRow 29 (.iload_n 2) 1 = true ∧ fdq cX1_isInRow 30 (.invokevirtual 59) 3 = true ∧ fdq cX1_isInRow 33 (.aload_n 1) 1 = true ∧ fdq cX1_isInRow 34 (.aload_n 0) 1 = true ∧ fdq cX1_isInRow 35 (.getfield 161) 3 = true ∧ fdq cX1_isInRow 38 (.iload_n 2) 1 = true ∧ fdq cX1_isInRow 39 (.iadd) 1 = true ∧ fdq cX1_isInRow 40 (.invokevirtual 59) 3 = true ∧ fdq cX1_isInRow 43 (.if_icmp .eq 5) 3 = true ∧ fdq cX1_isInRow 46 (.iconst 0) 1 = true ∧ fdq cX1_isInRow 47 (.ireturn) 1 = true := by decide +kernel
theorem dX1_isInRow_20 : decode cX1_isInRow 20 = .ok (.iload_n 2, 1) := fdf dAb_92.1
theorem dX1_isInRow_21 : decode cX1_isInRow 21 = .ok (.aload_n 0, 1) := fdf dAb_92.2.1
theorem dX1_isInRow_22 : decode cX1_isInRow 22 = .ok (.getfield 68, 3) := fdf dAb_92.2.2.1
theorem dX1_isInRow_25 : decode cX1_isInRow 25 = .ok (.if_icmp .ge 29, 3) := fdf dAb_92.2.2.2.1
theorem dX1_isInRow_28 : decode cX1_isInRow 28 = .ok (.aload_n 0, 1) := fdf dAb_92.2.2.2.2.1
theorem dX1_isInRow_29 : decode cX1_isInRow 29 = .ok (.iload_n 2, 1) := fdf dAb_92.2.2.2.2.2.1
theorem dX1_isInRow_30 : decode cX1_isInRow 30 = .ok (.invokevirtual 59, 3) := fdf dAb_92.2.2.2.2.2.2.1
theorem dX1_isInRow_33 : decode cX1_isInRow 33 = .ok (.aload_n 1, 1) := fdf dAb_92.2.2.2.2.2.2.2.1
theorem dX1_isInRow_34 : decode cX1_isInRow 34 = .ok (.aload_n 0, 1) := fdf dAb_92.2.2.2.2.2.2.2.2.1
theorem dX1_isInRow_35 : decode cX1_isInRow 35 = .ok (.getfield 161, 3) := fdf dAb_92.2.2.2.2.2.2.2.2.2.1
theorem dX1_isInRow_38 : decode cX1_isInRow 38 = .ok (.iload_n 2, 1) := fdf dAb_92.2.2.2.2.2.2.2.2.2.2.1
theorem dX1_isInRow_39 : decode cX1_isInRow 39 = .ok (.iadd, 1) := fdf dAb_92.2.2.2.2.2.2.2.2.2.2.2.1
theorem dX1_isInRow_40 : decode cX1_isInRow 40 = .ok (.invokevirtual 59, 3) := fdf dAb_92.2.2.2.2.2.2.2.2.2.2.2.2.1
theorem dX1_isInRow_43 : decode cX1_isInRow 43 = .ok (.if_icmp .eq 5, 3) := fdf dAb_92.2.2.2.2.2.2.2.2.2.2.2.2.2.1
theorem dX1_isInRow_46 : decode cX1_isInRow 46 = .ok (.iconst 0, 1) := fdf dAb_92.2.2.2.2.2.2.2.2.2.2.2.2.2.2.1
theorem dX1_isInRow_47 : decode cX1_isInRow 47 = .ok (.ireturn, 1) := fdf dAb_92.2.2.2.2.2.2.2.2.2.2.2.2.2.2.2
theorem dAb_93 : fdq cX1_isInRow 48 (.iinc 2 1) 3 = true ∧ fdq cX1_isInRow 51 (.goto (-31)) 3 = true ∧ fdq cX1_isInRow 54 (.aload_n 0) 1 = true ∧ fdq cX1_isInRow 55 (.iconst 0) 1 = true ∧ fdq cX1_isInRow 56 (.aload_n 0) 1 = true ∧ fdq cX1_isInRow 57 (.getfield 68) 3 = true ∧ fdq cX1_isInRow 60 (.invokestatic 102) 3 = true ∧ fdq cX1_isInRow 63 (.aload_n 1) 1 = true ∧ fdq cX1_isInRow 64 (.aload_n 0) 1 = true ∧ fdq cX1_isInRow 65 (.getfield 161) 3 = true ∧ fdq cX1_isInRow 68 (.aload_n 0) 1 = true ∧ fdq cX1_isInRow 69 (.getfield 161) 3 = true ∧ fdq cX1_isInRow 72 (.aload_n 0) 1 = true ∧ fdq cX1_isInRow 73 (.getfield 68) 3 = true ∧ fdq cX1_isInRow 76 (.iadd) 1 = true ∧ fdq cX1_isInRow 77 (.invokestatic 102) 3 = true := by decide +kernel
theorem dX1_isInRow_48 : decode cX1_isInRow 48 = .ok (.iinc 2 1, 3) := fdf dAb_93.1
theorem dX1_isInRow_51 : decode cX1_isInRow 51 = .ok (.goto (-31), 3) := fdf dAb_93.2.1
theorem dX1_isInRow_54 : decode cX1_isInRow 54 = .ok (.aload_n 0, 1) := fdf dAb_93.2.2.1
theorem dX1_isInRow_55 : decode cX1_isInRow 55 = .ok (.iconst 0, 1) := fdf dAb_93.2.2.2.1
theorem dX1_isInRow_56 : decode cX1_isInRow 56 = .ok (.aload_n 0, 1) := fdf dAb_93.2.2.2.2.1
theorem dX1_isInRow_57 : decode cX1_isInRow 57 = .ok (.getfield 68, 3) := fdf dAb_93.2.2.2.2.2.1
theorem dX1_isInRow_60 : decode cX1_isInRow 60 = .ok (.invokestatic 102, 3) := fdf dAb_93.2.2.2.2.2.2.1
theorem dX1_isInRow_63 : decode cX1_isInRow 63 = .ok (.aload_n 1, 1) := fdf dAb_93.2.2.2.2.2.2.2.1
theorem dX1_isInRow_64 : decode cX1_isInRow 64 = .ok (.aload_n 0, 1) := fdf dAb_93.2.2.2.2.2.2.2.2.1
theorem dX1_isInRow_65 : decode cX1_isInRow 65 = .ok (.getfield 161, 3) := fdf dAb_93.2.2.2.2.2.2.2.2.2.1
theorem dX1_isInRow_68 : decode cX1_isInRow 68 = .ok (.aload_n 0, 1) := fdf dAb_93.2.2.2.2.2.2.2.2.2.2.1
theorem dX1_isInRow_69 : decode cX1_isInRow 69 = .ok (.getfield 161, 3) := fdf dAb_93.2.2.2.2.2.2.2.2.2.2.2.1
theorem dX1_isInRow_72 : decode cX1_isInRow 72 = .ok (.aload_n 0, 1) := fdf dAb_93.2.2.2.2.2.2.2.2.2.2.2.2.1
theorem dX1_isInRow_73 : decode cX1_isInRow 73 = .ok (.getfield 68, 3) := fdf dAb_93.2.2.2.2.2.2.2.2.2.2.2.2.2.1
theorem dX1_isInRow_76 : decode cX1_isInRow 76 = .ok (.iadd, 1) := fdf dAb_93.2.2.2.2.2.2.2.2.2.2.2.2.2.2.1
theorem dX1_isInRow_77 : decode cX1_isInRow 77 = .ok (.invokestatic 102, 3) := fdf dAb_93.2.2.2.2.2.2.2.2.2.2.2.2.2.2.2
theorem dAb_94 : fdq cX1_isInRow 80 (.if_icmp .ne 7) 3 = true ∧ fdq cX1_isInRow 83 (.iconst 1) 1 = true ∧ fdq cX1_isInRow 84 (.goto 4) 3 = true ∧ fdq cX1_isInRow 87 (.iconst 0) 1 = true ∧ fdq cX1_isInRow 88 (.ireturn) 1 = true ∧ fdq cX1_isEqualToOwn 0 (.new 9) 3 = true ∧ fdq cX1_isEqualToOwn 3 (.dup) 1 = true ∧ fdq cX1_isEqualToOwn 4 (.iconst (-1)) 1 = true ∧ fdq cX1_isEqualToOwn 5 (.aload_n 0) 1 = true ∧ fdq cX1_isEqualToOwn 6 (.getfield 15) 3 = true ∧ fdq cX1_isEqualToOwn 9 (.iconst 0) 1 = true ∧ fdq cX1_isEqualToOwn 10 (.aload_n 1) 1 = true ∧ fdq cX1_isEqualToOwn 11 (.getfield 68) 3 = true ∧ fdq cX1_isEqualToOwn 14 (.invokespecial 26) 3 = true ∧ fdq cX1_isEqualToOwn 17 (.astore_n 2) 1 = true ∧ fdq cX1_isEqualToOwn 18 (.iconst 0) 1 = true := by decide +kernel
theorem dX1_isInRow_80 : decode cX1_isInRow 80 = .ok (.if_icmp .ne 7, 3) := fdf dAb_94.1
theorem dX1_isInRow_83 : decode cX1_isInRow 83 = .ok (.iconst 1, 1) := fdf dAb_94.2.1
theorem dX1_isInRow_84 : decode cX1_isInRow 84 = .ok (.goto 4, 3) := fdf dAb_94.2.2.1
theorem dX1_isInRow_87 : decode cX1_isInRow 87 = .ok (.iconst 0, 1) := fdf dAb_94.2.2.2.1
theorem dX1_isInRow_88 : decode cX1_isInRow 88 = .ok (.ireturn, 1) := fdf dAb_94.2.2.2.2.1
theorem dX1_isEqualToOwn_0 : decode cX1_isEqualToOwn 0 = .ok (.new 9, 3) := fdf dAb_94.2.2.2.2.2.1
theorem dX1_isEqualToOwn_3 : decode cX1_isEqualToOwn 3 = .ok (.dup, 1) := fdf dAb_94.2.2.2.2.2.2.1
theorem dX1_isEqualToOwn_4 : decode cX1_isEqualToOwn 4 = .ok (.iconst (-1), 1) := fdf dAb_94.2.2.2.2.2.2.2.1
theorem dX1_isEqualToOwn_5 : decode cX1_isEqualToOwn 5 = .ok (.aload_n 0, 1) := fdf dAb_94.2.2.2.2.2.2.2.2.1
theorem dX1_isEqualToOwn_6 : decode cX1_isEqualToOwn 6 = .ok (.getfield 15, 3) := fdf dAb_94.2.2.2.2.2.2.2.2.2.1
theorem dX1_isEqualToOwn_9 : decode cX1_isEqualToOwn 9 = .ok (.iconst 0, 1) := fdf dAb_94.2.2.2.2.2.2.2.2.2.2.1
theorem dX1_isEqualToOwn_10 : decode cX1_isEqualToOwn 10 = .ok (.aload_n 1, 1) := fdf dAb_94.2.2.2.2.2.2.2.2.2.2.2.1
theorem dX1_isEqualToOwn_11 : decode cX1_isEqualToOwn 11 = .ok (.getfield 68, 3) := fdf dAb_94.2.2.2.2.2.2.2.2.2.2.2.2.1
theorem dX1_isEqualToOwn_14 : decode cX1_isEqualToOwn 14 = .ok (.invokespecial 26, 3) := fdf dAb_94.2.2.2.2.2.2.2.2.2.2.2.2.2.1
theorem dX1_isEqualToOwn_17 : decode cX1_isEqualToOwn 17 = .ok (.astore_n 2, 1) := fdf dAb_94.2.2.2.2.2.2.2.2.2.2.2.2.2.2.1
theorem dX1_isEqualToOwn_18 : decode cX1_isEqualToOwn 18 = .ok (.iconst 0, 1) := fdf dAb_94.2.2.2.2.2.2.2.2.2.2.2.2.2.2.2
theorem dAb_95 : fdq cX1_isEqualToOwn 19 (.istore_n 3) 1 = true ∧ fdq cX1_isEqualToOwn 20 (.iload_n 3) 1 = true ∧ fdq cX1_isEqualToOwn 21 (.aload_n 1) 1 = true ∧ fdq cX1_isEqualToOwn 22 (.getfield 68) 3 = true ∧ fdq cX1_isEqualToOwn 25 (.if_icmp .ge 20) 3 = true ∧ fdq cX1_isEqualToOwn 28 (.aload_n 2) 1 = true ∧ fdq cX1_isEqualToOwn 29 (.iload_n 3) 1 = true ∧ fdq cX1_isEqualToOwn 30 (.aload_n 1) 1 = true ∧ fdq cX1_isEqualToOwn 31 (.iload_n 3) 1 = true ∧ fdq cX1_isEqualToOwn 32 (.invokevirtual 59) 3 = true ∧ fdq cX1_isEqualToOwn 35 (.invokevirtual 55) 3 = true ∧ fdq cX1_isEqualToOwn 38 (.pop) 1 = true ∧ fdq cX1_isEqualToOwn 39 (.iinc 3 1) 3 = true ∧ fdq cX1_isEqualToOwn 42 (.goto (-22)) 3 = true ∧ fdq cX1_isEqualToOwn 45 (.aload_n 1) 1 = true ∧ fdq cX1_isEqualToOwn 46 (.aload_n 2) 1 = true := by decide +kernel
theorem dX1_isEqualToOwn_19 : decode cX1_isEqualToOwn 19 = .ok (.istore_n 3, 1) := fdf dAb_95.1
theorem dX1_isEqualToOwn_20 : decode cX1_isEqualToOwn 20 = .ok (.iload_n 3, 1) := fdf dAb_95.2.1
theorem dX1_isEqualToOwn_21 : decode cX1_isEqualToOwn 21 = .ok (.aload_n 1, 1) := fdf dAb_95.2.2.1
theorem dX1_isEqualToOwn_22 : decode cX1_isEqualToOwn 22 = .ok (.getfield 68, 3) := fdf dAb_95.2.2.2.1
theorem dX1_isEqualToOwn_25 : decode cX1_isEqualToOwn 25 = .ok (.if_icmp .ge 20, 3) := fdf dAb_95.2.2.2.2.1
theorem dX1_isEqualToOwn_28 : decode cX1_isEqualToOwn 28 = .ok (.aload_n 2, 1) := fdf dAb_95.2.2.2.2.2.1
theorem dX1_isEqualToOwn_29 : decode cX1_isEqualToOwn 29 = .ok (.iload_n 3, 1) := fdf dAb_95.2.2.2.2.2.2.1
theorem dX1_isEqualToOwn_30 : decode cX1_isEqualToOwn 30 = .ok (.aload_n 1, 1) := fdf dAb_95.2.2.2.2.2.2.2.1
theorem dX1_isEqualToOwn_31 : decode cX1_isEqualToOwn 31 = .ok (.iload_n 3, 1) := fdf dAb_95.2.2.2.2.2.2.2.2.1
theorem dX1_isEqualToOwn_32 : decode cX1_isEqualToOwn 32 = .ok (.invokevirtual 59, 3) := fdf dAb_95.2.2.2.2.2.2.2.2.2.1
theorem dX1_isEqualToOwn_35 : decode cX1_isEqualToOwn 35 = .ok (.invokevirtual 55, 3) := fdf dAb_95.2.2.2.2.2.2.2.2.2.2.1
theorem dX1_isEqualToOwn_38 : decode cX1_isEqualToOwn 38 = .ok (.pop, 1) := fdf dAb_95.2.2.2.2.2.2.2.2.2.2.2.1
theorem dX1_isEqualToOwn_39 : decode cX1_isEqualToOwn 39 = .ok (.iinc 3 1, 3) := fdf dAb_95.2.2.2.2.2.2.2.2.2.2.2.2.1
theorem dX1_isEqualToOwn_42 : decode cX1_isEqualToOwn 42 = .ok (.goto (-22), 3) := fdf dAb_95.2.2.2.2.2.2.2.2.2.2.2.2.2.1
theorem dX1_isEqualToOwn_45 : decode cX1_isEqualToOwn 45 = .ok (.aload_n 1, 1) := fdf dAb_95.2.2.2.2.2.2.2.2.2.2.2.2.2.2.1
theorem dX1_isEqualToOwn_46 : decode cX1_isEqualToOwn 46 = .ok (.aload_n 2, 1) := fdf dAb_95.2.2.2.2.2.2.2.2.2.2.2.2.2.2.2
theorem dAb_96 : fdq cX1_isEqualToOwn 47 (.invokestatic 98) 3 = true ∧ fdq cX1_isEqualToOwn 50 (.ifCond .eq 15) 3 = true ∧ fdq cX1_isEqualToOwn 53 (.aload_n 2) 1 = true ∧ fdq cX1_isEqualToOwn 54 (.aload_n 1) 1 = true ∧ fdq cX1_isEqualToOwn 55 (.invokestatic 98) 3 = true ∧ fdq cX1_isEqualToOwn 58 (.ifCond .eq 7) 3 = true ∧ fdq cX1_isEqualToOwn 61 (.iconst 1) 1 = true ∧ fdq cX1_isEqualToOwn 62 (.goto 4) 3 = true ∧ fdq cX1_isEqualToOwn 65 (.iconst 0) 1 = true ∧ fdq cX1_isEqualToOwn 66 (.ireturn) 1 = true ∧ fdq cX1_isSameBothWays 0 (.iconst 0) 1 = true ∧ fdq cX1_isSameBothWays 1 (.istore_n 1) 1 = true ∧ fdq cX1_isSameBothWays 2 (.iload_n 1) 1 = true ∧ fdq cX1_isSameBothWays 3 (.aload_n 0) 1 = true ∧ fdq cX1_isSameBothWays 4 (.getfield 68) 3 = true ∧ fdq cX1_isSameBothWays 7 (.if_icmp .ge 48) 3 = true := by decide +kernel
theorem dX1_isEqualToOwn_47 : decode cX1_isEqualToOwn 47 = .ok (.invokestatic 98, 3) := fdf dAb_96.1
theorem dX1_isEqualToOwn_50 : decode cX1_isEqualToOwn 50 = .ok (.ifCond .eq 15, 3) := fdf dAb_96.2.1
theorem dX1_isEqualToOwn_53 : decode cX1_isEqualToOwn 53 = .ok (.aload_n 2, 1) := fdf dAb_96.2.2.1
theorem dX1_isEqualToOwn_54 : decode cX1_isEqualToOwn 54 = .ok (.aload_n 1, 1) := fdf dAb_96.2.2.2.1
theorem dX1_isEqualToOwn_55 : decode cX1_isEqualToOwn 55 = .ok (.invokestatic 98, 3) := fdf dAb_96.2.2.2.2.1
theorem dX1_isEqualToOwn_58 : decode cX1_isEqualToOwn 58 = .ok (.ifCond .eq 7, 3) := fdf dAb_96.2.2.2.2.2.1
theorem dX1_isEqualToOwn_61 : decode cX1_isEqualToOwn 61 = .ok (.iconst 1, 1) := fdf dAb_96.2.2.2.2.2.2.1
theorem dX1_isEqualToOwn_62 : decode cX1_isEqualToOwn 62 = .ok (.goto 4, 3) := fdf dAb_96.2.2.2.2.2.2.2.1
theorem dX1_isEqualToOwn_65 : decode cX1_isEqualToOwn 65 = .ok (.iconst 0, 1) := fdf dAb_96.2.2.2.2.2.2.2.2.1
theorem dX1_isEqualToOwn_66 : decode cX1_isEqualToOwn 66 = .ok (.ireturn, 1) := fdf dAb_96.2.2.2.2.2.2.2.2.2.1
theorem dX1_isSameBothWays_0 : decode cX1_isSameBothWays 0 = .ok (.iconst 0, 1) := fdf dAb_96.2.2.2.2.2.2.2.2.2.2.1
theorem dX1_isSameBothWays_1 : decode cX1_isSameBothWays 1 = .ok (.istore_n 1, 1) := fdf dAb_96.2.2.2.2.2.2.2.2.2.2.2.1
theorem dX1_isSameBothWays_2 : decode cX1_isSameBothWays 2 = .ok (.iload_n 1, 1) := fdf dAb_96.2.2.2.2.2.2.2.2.2.2.2.2.1
theorem dX1_isSameBothWays_3 : decode cX1_isSameBothWays 3 = .ok (.aload_n 0, 1) := fdf dAb_96.2.2.2.2.2.2.2.2.2.2.2.2.2.1
theorem dX1_isSameBothWays_4 : decode cX1_isSameBothWays 4 = .ok (.getfield 68, 3) := fdf dAb_96.2.2.2.2.2.2.2.2.2.2.2.2.2.2.1
theorem dX1_isSameBothWays_7 : decode cX1_isSameBothWays 7 = .ok (.if_icmp .ge 48, 3) := fdf dAb_96.2.2.2.2.2.2.2.2.2.2.2.2.2.2.2
theorem dAb_97 : fdq cX1_isSameBothWays 10 (.iconst 0) 1 = true ∧ fdq cX1_isSameBothWays 11 (.iload_n 1) 1 = true ∧ fdq cX1_isSameBothWays 12 (.iconst 0) 1 = true ∧ fdq cX1_isSameBothWays 13 (.invokestatic 213) 3 = true ∧ fdq cX1_isSameBothWays 16 (.istore_n 2) 1 = true ∧ fdq cX1_isSameBothWays 17 (.aload_n 0) 1 = true ∧ fdq cX1_isSameBothWays 18 (.getfield 68) 3 = true ∧ fdq cX1_isSameBothWays 21 (.aload_n 0) 1 = true ∧ fdq cX1_isSameBothWays 22 (.getfield 68) 3 = true ∧ fdq cX1_isSameBothWays 25 (.iconst 1) 1 = true ∧ fdq cX1_isSameBothWays 26 (.isub) 1 = true ∧ fdq cX1_isSameBothWays 27 (.iload_n 1) 1 = true ∧ fdq cX1_isSameBothWays 28 (.isub) 1 = true ∧ fdq cX1_isSameBothWays 29 (.iconst 1) 1 = true ∧ fdq cX1_isSameBothWays 30 (.invokestatic 213) 3 = true ∧ fdq cX1_isSameBothWays 33 (.istore_n 3) 1 = true := by decide +kernel
theorem dX1_isSameBothWays_10 : decode cX1_isSameBothWays 10 = .ok (.iconst 0, 1) := fdf dAb_97.1
theorem dX1_isSameBothWays_11 : decode cX1_isSameBothWays 11 = .ok (.iload_n 1, 1) := fdf dAb_97.2.1
theorem dX1_isSameBothWays_12 : decode cX1_isSameBothWays 12 = .ok (.iconst 0, 1) := fdf dAb_97.2.2.1
theorem dX1_isSameBothWays_13 : decode cX1_isSameBothWays 13 = .ok (.invokestatic 213, 3) := fdf dAb_97.2.2.2.1
theorem dX1_isSameBothWays_16 : decode cX1_isSameBothWays 16 = .ok (.istore_n 2, 1) := fdf dAb_97.2.2.2.2.1
theorem dX1_isSameBothWays_17 : decode cX1_isSameBothWays 17 = .ok (.aload_n 0, 1) := fdf dAb_97.2.2.2.2.2.1
theorem dX1_isSameBothWays_18 : decode cX1_isSameBothWays 18 = .ok (.getfield 68, 3) := fdf dAb_97.2.2.2.2.2.2.1
theorem dX1_isSameBothWays_21 : decode cX1_isSameBothWays 21 = .ok (.aload_n 0, 1) := fdf dAb_97.2.2.2.2.2.2.2.1
theorem dX1_isSameBothWays_22 : decode cX1_isSameBothWays 22 = .ok (.getfield 68, 3) := fdf dAb_97.2.2.2.2.2.2.2.2.1
theorem dX1_isSameBothWays_25 : decode cX1_isSameBothWays 25 = .ok (.iconst 1, 1) := fdf dAb_97.2.2.2.2.2.2.2.2.2.1
theorem dX1_isSameBothWays_26 : decode cX1_isSameBothWays 26 = .ok (.isub, 1) := fdf dAb_97.2.2.2.2.2.2.2.2.2.2.1
theorem dX1_isSameBothWays_27 : decode cX1_isSameBothWays 27 = .ok (.iload_n 1, 1) := fdf dAb_97.2.2.2.2.2.2.2.2.2.2.2.1
theorem dX1_isSameBothWays_28 : decode cX1_isSameBothWays 28 = .ok (.isub, 1) := fdf dAb_97.2.2.2.2.2.2.2.2.2.2.2.2.1
theorem dX1_isSameBothWays_29 : decode cX1_isSameBothWays 29 = .ok (.iconst 1, 1) := fdf dAb_97.2.2.2.2.2.2.2.2.2.2.2.2.2.1
theorem dX1_isSameBothWays_30 : decode cX1_isSameBothWays 30 = .ok (.invokestatic 213, 3) := fdf dAb_97.2.2.2.2.2.2.2.2.2.2.2.2.2.2.1
theorem dX1_isSameBothWays_33 : decode cX1_isSameBothWays 33 = .ok (.istore_n 3, 1) := fdf dAb_97.2.2.2.2.2.2.2.2.2.2.2.2.2.2.2
theorem dAb_98 : fdq cX1_isSameBothWays 34 (.aload_n 0) 1 = true ∧ fdq cX1_isSameBothWays 35 (.iload_n 2) 1 = true ∧ fdq cX1_isSameBothWays 36 (.invokevirtual 59) 3 = true ∧ fdq cX1_isSameBothWays 39 (.aload_n 0) 1 = true ∧ fdq cX1_isSameBothWays 40 (.iload_n 3) 1 = true ∧ fdq cX1_isSameBothWays 41 (.invokevirtual 59) 3 = true ∧ fdq cX1_isSameBothWays 44 (.if_icmp .eq 5) 3 = true ∧ fdq cX1_isSameBothWays 47 (.iconst 0) 1 = true ∧ fdq cX1_isSameBothWays 48 (.ireturn) 1 = true ∧ fdq cX1_isSameBothWays 49 (.iinc 1 1) 3 = true ∧ fdq cX1_isSameBothWays 52 (.goto (-50)) 3 = true ∧ fdq cX1_isSameBothWays 55 (.iconst 1) 1 = true ∧ fdq cX1_isSameBothWays 56 (.ireturn) 1 = true ∧ fdq cX1_areFirstsAndLasts 0 (.iconst 0) 1 = true ∧ fdq cX1_areFirstsAndLasts 1 (.istore_n 1) 1 = true ∧ fdq cX1_areFirstsAndLasts 2 (.iload_n 1) 1 = true := by decide +kernel
theorem dX1_isSameBothWays_34 : decode cX1_isSameBothWays 34 = .ok (.aload_n 0, 1) := fdf dAb_98.1
theorem dX1_isSameBothWays_35 : decode cX1_isSameBothWays 35 = .ok (.iload_n 2, 1) := fdf dAb_98.2.1
theorem dX1_isSameBothWays_36 : decode cX1_isSameBothWays 36 = .ok (.invokevirtual 59, 3) := fdf dAb_98.2.2.1
theorem dX1_isSameBothWays_39 : decode cX1_isSameBothWays 39 = .ok (.aload_n 0, 1) := fdf dAb_98.2.2.2.1
theorem dX1_isSameBothWays_40 : decode cX1_isSameBothWays 40 = .ok (.iload_n 3, 1) := fdf dAb_98.2.2.2.2.1
theorem dX1_isSameBothWays_41 : decode cX1_isSameBothWays 41 = .ok (.invokevirtual 59, 3) := fdf dAb_98.2.2.2.2.2.1
theorem dX1_isSameBothWays_44 : decode cX1_isSameBothWays 44 = .ok (.if_icmp .eq 5, 3) := fdf dAb_98.2.2.2.2.2.2.1
theorem dX1_isSameBothWays_47 : decode cX1_isSameBothWays 47 = .ok (.iconst 0, 1) := fdf dAb_98.2.2.2.2.2.2.2.1
theorem dX1_isSameBothWays_48 : decode cX1_isSameBothWays 48 = .ok (.ireturn, 1) := fdf dAb_98.2.2.2.2.2.2.2.2.1
theorem dX1_isSameBothWays_49 : decode cX1_isSameBothWays 49 = .ok (.iinc 1 1, 3) := fdf dAb_98.2.2.2.2.2.2.2.2.2.1
theorem dX1_isSameBothWays_52 : decode cX1_isSameBothWays 52 = .ok (.goto (-50), 3) := fdf dAb_98.2.2.2.2.2.2.2.2.2.2.1
theorem dX1_isSameBothWays_55 : decode cX1_isSameBothWays 55 = .ok (.iconst 1, 1) := fdf dAb_98.2.2.2.2.2.2.2.2.2.2.2.1
theorem dX1_isSameBothWays_56 : decode cX1_isSameBothWays 56 = .ok (.ireturn, 1) := fdf dAb_98.2.2.2.2.2.2.2.2.2.2.2.2.1
theorem dX1_areFirstsAndLasts_0 : decode cX1_areFirstsAndLasts 0 = .ok (.iconst 0, 1) := fdf dAb_98.2.2.2.2.2.2.2.2.2.2.2.2.2.1
theorem dX1_areFirstsAndLasts_1 : decode cX1_areFirstsAndLasts 1 = .ok (.istore_n 1, 1) := fdf dAb_98.2.2.2.2.2.2.2.2.2.2.2.2.2.2.1
theorem dX1_areFirstsAndLasts_2 : decode cX1_areFirstsAndLasts 2 = .ok (.iload_n 1, 1) := fdf dAb_98.2.2.2.2.2.2.2.2.2.2.2.2.2.2.2
theorem dAb_99 : fdq cX1_areFirstsAndLasts 3 (.aload_n 0) 1 = true ∧ fdq cX1_areFirstsAndLasts 4 (.getfield 68) 3 = true ∧ fdq cX1_areFirstsAndLasts 7 (.if_icmp .ge 77) 3 = true ∧ fdq cX1_areFirstsAndLasts 10 (.aload_n 0) 1 = true ∧ fdq cX1_areFirstsAndLasts 11 (.iload_n 1) 1 = true ∧ fdq cX1_areFirstsAndLasts 12 (.invokevirtual 59) 3 = true ∧ fdq cX1_areFirstsAndLasts 15 (.istore_n 2) 1 = true ∧ fdq cX1_areFirstsAndLasts 16 (.aload_n 0) 1 = true ∧ fdq cX1_areFirstsAndLasts 17 (.iload_n 2) 1 = true ∧ fdq cX1_areFirstsAndLasts 18 (.invokestatic 79) 3 = true ∧ fdq cX1_areFirstsAndLasts 21 (.istore_n 3) 1 = true ∧ fdq cX1_areFirstsAndLasts 22 (.aload_n 0) 1 = true ∧ fdq cX1_areFirstsAndLasts 23 (.iload_n 2) 1 = true ∧ fdq cX1_areFirstsAndLasts 24 (.invokestatic 83) 3 = true ∧ fdq cX1_areFirstsAndLasts 27 (.istore 4) 2 = true ∧ fdq cX1_areFirstsAndLasts 29 (.aload_n 0) 1 = true := by decide +kernel
theorem dX1_areFirstsAndLasts_3 : decode cX1_areFirstsAndLasts 3 = .ok (.aload_n 0, 1) := fdf dAb_99.1
theorem dX1_areFirstsAndLasts_4 : decode cX1_areFirstsAndLasts 4 = .ok (.getfield 68, 3) := fdf dAb_99.2.1
theorem dX1_areFirstsAndLasts_7 : decode cX1_areFirstsAndLasts 7 = .ok (.if_icmp .ge 77, 3) := fdf dAb_99.2.2.1
theorem dX1_areFirstsAndLasts_10 : decode cX1_areFirstsAndLasts 10 = .ok (.aload_n 0, 1) := fdf dAb_99.2.2.2.1
theorem dX1_areFirstsAndLasts_11 : decode cX1_areFirstsAndLasts 11 = .ok (.iload_n 1, 1) := fdf dAb_99.2.2.2.2.1
theorem dX1_areFirstsAndLasts_12 : decode cX1_areFirstsAndLasts 12 = .ok (.invokevirtual 59, 3) := fdf dAb_99.2.2.2.2.2.1
theorem dX1_areFirstsAndLasts_15 : decode cX1_areFirstsAndLasts 15 = .ok (.istore_n 2, 1) := fdf dAb_99.2.2.2.2.2.2.1
theorem dX1_areFirstsAndLasts_16 : decode cX1_areFirstsAndLasts 16 = .ok (.aload_n 0, 1) := fdf dAb_99.2.2.2.2.2.2.2.1
theorem dX1_areFirstsAndLasts_17 : decode cX1_areFirstsAndLasts 17 = .ok (.iload_n 2, 1) := fdf dAb_99.2.2.2.2.2.2.2.2.1
theorem dX1_areFirstsAndLasts_18 : decode cX1_areFirstsAndLasts 18 = .ok (.invokestatic 79, 3) := fdf dAb_99.2.2.2.2.2.2.2.2.2.1
theorem dX1_areFirstsAndLasts_21 : decode cX1_areFirstsAndLasts 21 = .ok (.istore_n 3, 1) := fdf dAb_99.2.2.2.2.2.2.2.2.2.2.1
theorem dX1_areFirstsAndLasts_22 : decode cX1_areFirstsAndLasts 22 = .ok (.aload_n 0, 1) := fdf dAb_99.2.2.2.2.2.2.2.2.2.2.2.1
theorem dX1_areFirstsAndLasts_23 : decode cX1_areFirstsAndLasts 23 = .ok (.iload_n 2, 1) := fdf dAb_99.2.2.2.2.2.2.2.2.2.2.2.2.1
theorem dX1_areFirstsAndLasts_24 : decode cX1_areFirstsAndLasts 24 = .ok (.invokestatic 83, 3) := fdf dAb_99.2.2.2.2.2.2.2.2.2.2.2.2.2.1
theorem dX1_areFirstsAndLasts_27 : decode cX1_areFirstsAndLasts 27 = .ok (.istore 4, 2) := fdf dAb_99.2.2.2.2.2.2.2.2.2.2.2.2.2.2.1
theorem dX1_areFirstsAndLasts_29 : decode cX1_areFirstsAndLasts 29 = .ok (.aload_n 0, 1) := fdf dAb_99.2.2.2.2.2.2.2.2.2.2.2.2.2.2.2
theorem dAb_100 : fdq cX1_areFirstsAndLasts 30 (.iload_n 3) 1 = true ∧ fdq cX1_areFirstsAndLasts 31 (.invokevirtual 199) 3 = true ∧ fdq cX1_areFirstsAndLasts 34 (.ifCond .eq 42) 3 = true ∧ fdq cX1_areFirstsAndLasts 37 (.iload_n 3) 1 = true ∧ fdq cX1_areFirstsAndLasts 38 (.iload_n 1) 1 = true ∧ fdq cX1_areFirstsAndLasts 39 (.if_icmp .gt 37) 3 = true ∧ fdq cX1_areFirstsAndLasts 42 (.aload_n 0) 1 = true ∧ fdq cX1_areFirstsAndLasts 43 (.iload_n 3) 1 = true ∧ fdq cX1_areFirstsAndLasts 44 (.invokevirtual 59) 3 = true ∧ fdq cX1_areFirstsAndLasts 47 (.iload_n 2) 1 = true ∧ fdq cX1_areFirstsAndLasts 48 (.if_icmp .ne 28) 3 = true ∧ fdq cX1_areFirstsAndLasts 51 (.aload_n 0) 1 = true ∧ fdq cX1_areFirstsAndLasts 52 (.iload 4) 2 = true ∧ fdq cX1_areFirstsAndLasts 54 (.invokevirtual 199) 3 = true ∧ fdq cX1_areFirstsAndLasts 57 (.ifCond .eq 19) 3 = true ∧ fdq cX1_areFirstsAndLasts 60 (.iload 4) 2 = true := by decide +kernel
theorem dX1_areFirstsAndLasts_30 : decode cX1_areFirstsAndLasts 30 = .ok (.iload_n 3, 1) := fdf dAb_100.1
theorem dX1_areFirstsAndLasts_31 : decode cX1_areFirstsAndLasts 31 = .ok (.invokevirtual 199, 3) := fdf dAb_100.2.1
theorem dX1_areFirstsAndLasts_34 : decode cX1_areFirstsAndLasts 34 = .ok (.ifCond .eq 42, 3) := fdf dAb_100.2.2.1
theorem dX1_areFirstsAndLasts_37 : decode cX1_areFirstsAndLasts 37 = .ok (.iload_n 3, 1) := fdf dAb_100.2.2.2.1
theorem dX1_areFirstsAndLasts_38 : decode cX1_areFirstsAndLasts 38 = .ok (.iload_n 1, 1) := fdf dAb_100.2.2.2.2.1
theorem dX1_areFirstsAndLasts_39 : decode cX1_areFirstsAndLasts 39 = .ok (.if_icmp .gt 37, 3) := fdf dAb_100.2.2.2.2.2.1
theorem dX1_areFirstsAndLasts_42 : decode cX1_areFirstsAndLasts 42 = .ok (.aload_n 0, 1) := fdf dAb_100.2.2.2.2.2.2.1
theorem dX1_areFirstsAndLasts_43 : decode cX1_areFirstsAndLasts 43 = .ok (.iload_n 3, 1) := fdf dAb_100.2.2.2.2.2.2.2.1
theorem dX1_areFirstsAndLasts_44 : decode cX1_areFirstsAndLasts 44 = .ok (.invokevirtual 59, 3) := fdf dAb_100.2.2.2.2.2.2.2.2.1
theorem dX1_areFirstsAndLasts_47 : decode cX1_areFirstsAndLasts 47 = .ok (.iload_n 2, 1) := fdf dAb_100.2.2.2.2.2.2.2.2.2.1
theorem dX1_areFirstsAndLasts_48 : decode cX1_areFirstsAndLasts 48 = .ok (.if_icmp .ne 28, 3) := fdf dAb_100.2.2.2.2.2.2.2.2.2.2.1
theorem dX1_areFirstsAndLasts_51 : decode cX1_areFirstsAndLasts 51 = .ok (.aload_n 0, 1) := fdf dAb_100.2.2.2.2.2.2.2.2.2.2.2.1
theorem dX1_areFirstsAndLasts_52 : decode cX1_areFirstsAndLasts 52 = .ok (.iload 4, 2) := fdf dAb_100.2.2.2.2.2.2.2.2.2.2.2.2.1
theorem dX1_areFirstsAndLasts_54 : decode cX1_areFirstsAndLasts 54 = .ok (.invokevirtual 199, 3) := fdf dAb_100.2.2.2.2.2.2.2.2.2.2.2.2.2.1
theorem dX1_areFirstsAndLasts_57 : decode cX1_areFirstsAndLasts 57 = .ok (.ifCond .eq 19, 3) := fdf dAb_100.2.2.2.2.2.2.2.2.2.2.2.2.2.2.1
theorem dX1_areFirstsAndLasts_60 : decode cX1_areFirstsAndLasts 60 = .ok (.iload 4, 2) := fdf dAb_100.2.2.2.2.2.2.2.2.2.2.2.2.2.2.2
theorem dAb_101 : fdq cX1_areFirstsAndLasts 62 (.iload_n 1) 1 = true ∧ fdq cX1_areFirstsAndLasts 63 (.if_icmp .lt 13) 3 = true ∧ fdq cX1_areFirstsAndLasts 66 (.aload_n 0) 1 = true ∧ fdq cX1_areFirstsAndLasts 67 (.iload 4) 2 = true ∧ fdq cX1_areFirstsAndLasts 69 (.invokevirtual 59) 3 = true ∧ fdq cX1_areFirstsAndLasts 72 (.iload_n 2) 1 = true ∧ fdq cX1_areFirstsAndLasts 73 (.if_icmp .eq 5) 3 = true ∧ fdq cX1_areFirstsAndLasts 76 (.iconst 0) 1 = true ∧ fdq cX1_areFirstsAndLasts 77 (.ireturn) 1 = true ∧ fdq cX1_areFirstsAndLasts 78 (.iinc 1 1) 3 = true ∧ fdq cX1_areFirstsAndLasts 81 (.goto (-79)) 3 = true ∧ fdq cX1_areFirstsAndLasts 84 (.iconst 1) 1 = true ∧ fdq cX1_areFirstsAndLasts 85 (.ireturn) 1 = true ∧ fdq cX1_mixed 0 (.lload_n 0) 1 = true ∧ fdq cX1_mixed 1 (.ldc2_w 263) 3 = true ∧ fdq cX1_mixed 4 (.lmul) 1 = true := by decide +kernel
theorem dX1_areFirstsAndLasts_62 : decode cX1_areFirstsAndLasts 62 = .ok (.iload_n 1, 1) := fdf dAb_101.1
theorem dX1_areFirstsAndLasts_63 : decode cX1_areFirstsAndLasts 63 = .ok (.if_icmp .lt 13, 3) := fdf dAb_101.2.1
theorem dX1_areFirstsAndLasts_66 : decode cX1_areFirstsAndLasts 66 = .ok (.aload_n 0, 1) := fdf dAb_101.2.2.1
theorem dX1_areFirstsAndLasts_67 : decode cX1_areFirstsAndLasts 67 = .ok (.iload 4, 2) := fdf dAb_101.2.2.2.1
theorem dX1_areFirstsAndLasts_69 : decode cX1_areFirstsAndLasts 69 = .ok (.invokevirtual 59, 3) := fdf dAb_101.2.2.2.2.1
theorem dX1_areFirstsAndLasts_72 : decode cX1_areFirstsAndLasts 72 = .ok (.iload_n 2, 1) := fdf dAb_101.2.2.2.2.2.1
theorem dX1_areFirstsAndLasts_73 : decode cX1_areFirstsAndLasts 73 = .ok (.if_icmp .eq 5, 3) := fdf dAb_101.2.2.2.2.2.2.1
theorem dX1_areFirstsAndLasts_76 : decode cX1_areFirstsAndLasts 76 = .ok (.iconst 0, 1) := fdf dAb_101.2.2.2.2.2.2.2.1
theorem dX1_areFirstsAndLasts_77 : decode cX1_areFirstsAndLasts 77 = .ok (.ireturn, 1) := fdf dAb_101.2.2.2.2.2.2.2.2.1
theorem dX1_areFirstsAndLasts_78 : decode cX1_areFirstsAndLasts 78 = .ok (.iinc 1 1, 3) := fdf dAb_101.2.2.2.2.2.2.2.2.2.1
theorem dX1_areFirstsAndLasts_81 : decode cX1_areFirstsAndLasts 81 = .ok (.goto (-79), 3) := fdf dAb_101.2.2.2.2.2.2.2.2.2.2.1
theorem dX1_areFirstsAndLasts_84 : decode cX1_areFirstsAndLasts 84 = .ok (.iconst 1, 1) := fdf dAb_101.2.2.2.2.2.2.2.2.2.2.2.1
theorem dX1_areFirstsAndLasts_85 : decode cX1_areFirstsAndLasts 85 = .ok (.ireturn, 1) := fdf dAb_101.2.2.2.2.2.2.2.2.2.2.2.2.1
theorem dX1_mixed_0 : decode cX1_mixed 0 = .ok (.lload_n 0, 1) := fdf dAb_101.2.2.2.2.2.2.2.2.2.2.2.2.2.1
theorem dX1_mixed_1 : decode cX1_mixed 1 = .ok (.ldc2_w 263, 3) := fdf dAb_101.2.2.2.2.2.2.2.2.2.2.2.2.2.2.1
theorem dX1_mixed_4 : decode cX1_mixed 4 = .ok (.lmul, 1) := fdf dAb_101.2.2.2.2.2.2.2.2.2.2.2.2.2.2.2
theorem dAb_102 : fdq cX1_mixed 5 (.lload_n 2) 1 = true ∧ fdq cX1_mixed 6 (.ladd) 1 = true ∧ fdq cX1_mixed 7 (.lreturn) 1 = true ∧ fdq cX1_mixedWithRow 0 (.aload_n 0) 1 = true ∧ fdq cX1_mixedWithRow 1 (.iload_n 3) 1 = true ∧ fdq cX1_mixedWithRow 2 (.invokevirtual 29) 3 = true ∧ fdq cX1_mixedWithRow 5 (.astore 4) 2 = true ∧ fdq cX1_mixedWithRow 7 (.lload_n 1) 1 = true ∧ fdq cX1_mixedWithRow 8 (.aload 4) 2 = true ∧ fdq cX1_mixedWithRow 10 (.getfield 68) 3 = true ∧ fdq cX1_mixedWithRow 13 (.i2l) 1 = true ∧ fdq cX1_mixedWithRow 14 (.invokestatic 173) 3 = true ∧ fdq cX1_mixedWithRow 17 (.lstore 5) 2 = true ∧ fdq cX1_mixedWithRow 19 (.iconst 0) 1 = true ∧ fdq cX1_mixedWithRow 20 (.istore 7) 2 = true ∧ fdq cX1_mixedWithRow 22 (.iload 7) 2 = true := by decide +kernel
theorem dX1_mixed_5 : decode cX1_mixed 5 = .ok (.lload_n 2, 1) := fdf dAb_102.1
theorem dX1_mixed_6 : decode cX1_mixed 6 = .ok (.ladd, 1) := fdf dAb_102.2.1
theorem dX1_mixed_7 : decode cX1_mixed 7 = .ok (.lreturn, 1) := fdf dAb_102.2.2.1
theorem dX1_mixedWithRow_0 : decode cX1_mixedWithRow 0 = .ok (.aload_n 0, 1) := fdf dAb_102.2.2.2.1
theorem dX1_mixedWithRow_1 : decode cX1_mixedWithRow 1 = .ok (.iload_n 3, 1) := fdf dAb_102.2.2.2.2.1
theorem dX1_mixedWithRow_2 : decode cX1_mixedWithRow 2 = .ok (.invokevirtual 29, 3) := fdf dAb_102.2.2.2.2.2.1
theorem dX1_mixedWithRow_5 : decode cX1_mixedWithRow 5 = .ok (.astore 4, 2) := fdf dAb_102.2.2.2.2.2.2.1
theorem dX1_mixedWithRow_7 : decode cX1_mixedWithRow 7 = .ok (.lload_n 1, 1) := fdf dAb_102.2.2.2.2.2.2.2.1
theorem dX1_mixedWithRow_8 : decode cX1_mixedWithRow 8 = .ok (.aload 4, 2) := fdf dAb_102.2.2.2.2.2.2.2.2.1
theorem dX1_mixedWithRow_10 : decode cX1_mixedWithRow 10 = .ok (.getfield 68, 3) := fdf dAb_102.2.2.2.2.2.2.2.2.2.1
theorem dX1_mixedWithRow_13 : decode cX1_mixedWithRow 13 = .ok (.i2l, 1) := fdf dAb_102.2.2.2.2.2.2.2.2.2.2.1
theorem dX1_mixedWithRow_14 : decode cX1_mixedWithRow 14 = .ok (.invokestatic 173, 3) := fdf dAb_102.2.2.2.2.2.2.2.2.2.2.2.1
theorem dX1_mixedWithRow_17 : decode cX1_mixedWithRow 17 = .ok (.lstore 5, 2) := fdf dAb_102.2.2.2.2.2.2.2.2.2.2.2.2.1
theorem dX1_mixedWithRow_19 : decode cX1_mixedWithRow 19 = .ok (.iconst 0, 1) := fdf dAb_102.2.2.2.2.2.2.2.2.2.2.2.2.2.1
theorem dX1_mixedWithRow_20 : decode cX1_mixedWithRow 20 = .ok (.istore 7, 2) := fdf dAb_102.2.2.2.2.2.2.2.2.2.2.2.2.2.2.1
theorem dX1_mixedWithRow_22 : decode cX1_mixedWithRow 22 = .ok (.iload 7, 2) := fdf dAb_102.2.2.2.2.2.2.2.2.2.2.2.2.2.2.2
theorem dAb_103 : fdq cX1_mixedWithRow 24 (.aload 4) 2 = true ∧ fdq cX1_mixedWithRow 26 (.getfield 68) 3 = true ∧ fdq cX1_mixedWithRow 29 (.if_icmp .ge 24) 3 = true ∧ fdq cX1_mixedWithRow 32 (.lload 5) 2 = true ∧ fdq cX1_mixedWithRow 34 (.aload 4) 2 = true ∧ fdq cX1_mixedWithRow 36 (.iload 7) 2 = true ∧ fdq cX1_mixedWithRow 38 (.invokevirtual 59) 3 = true ∧ fdq cX1_mixedWithRow 41 (.i2l) 1 = true ∧ fdq cX1_mixedWithRow 42 (.invokestatic 173) 3 = true ∧ fdq cX1_mixedWithRow 45 (.lstore 5) 2 = true ∧ fdq cX1_mixedWithRow 47 (.iinc 7 1) 3 = true ∧ fdq cX1_mixedWithRow 50 (.goto (-28)) 3 = true ∧ fdq cX1_mixedWithRow 53 (.lload 5) 2 = true ∧ fdq cX1_mixedWithRow 55 (.lreturn) 1 = true ∧ fdq cX1_mixedWithList 0 (.lload_n 1) 1 = true ∧ fdq cX1_mixedWithList 1 (.aload_n 0) 1 = true := by decide +kernel
theorem dX1_mixedWithRow_24 : decode cX1_mixedWithRow 24 = .ok (.aload 4, 2) := fdf dAb_103.1
theorem dX1_mixedWithRow_26 : decode cX1_mixedWithRow 26 = .ok (.getfield 68, 3) := fdf dAb_103.2.1
theorem dX1_mixedWithRow_29 : decode cX1_mixedWithRow 29 = .ok (.if_icmp .ge 24, 3) := fdf dAb_103.2.2.1
theorem dX1_mixedWithRow_32 : decode cX1_mixedWithRow 32 = .ok (.lload 5, 2) := fdf dAb_103.2.2.2.1
theorem dX1_mixedWithRow_34 : decode cX1_mixedWithRow 34 = .ok (.aload 4, 2) := fdf dAb_103.2.2.2.2.1
theorem dX1_mixedWithRow_36 : decode cX1_mixedWithRow 36 = .ok (.iload 7, 2) := fdf dAb_103.2.2.2.2.2.1
theorem dX1_mixedWithRow_38 : decode cX1_mixedWithRow 38 = .ok (.invokevirtual 59, 3) := fdf dAb_103.2.2.2.2.2.2.1
theorem dX1_mixedWithRow_41 : decode cX1_mixedWithRow 41 = .ok (.i2l, 1) := fdf dAb_103.2.2.2.2.2.2.2.1
theorem dX1_mixedWithRow_42 : decode cX1_mixedWithRow 42 = .ok (.invokestatic 173, 3) := fdf dAb_103.2.2.2.2.2.2.2.2.1
theorem dX1_mixedWithRow_45 : decode cX1_mixedWithRow 45 = .ok (.lstore 5, 2) := fdf dAb_103.2.2.2.2.2.2.2.2.2.1
theorem dX1_mixedWithRow_47 : decode cX1_mixedWithRow 47 = .ok (.iinc 7 1, 3) := fdf dAb_103.2.2.2.2.2.2.2.2.2.2.1
theorem dX1_mixedWithRow_50 : decode cX1_mixedWithRow 50 = .ok (.goto (-28), 3) := fdf dAb_103.2.2.2.2.2.2.2.2.2.2.2.1
theorem dX1_mixedWithRow_53 : decode cX1_mixedWithRow 53 = .ok (.lload 5, 2) := fdf dAb_103.2.2.2.2.2.2.2.2.2.2.2.2.1
theorem dX1_mixedWithRow_55 : decode cX1_mixedWithRow 55 = .ok (.lreturn, 1) := fdf dAb_103.2.2.2.2.2.2.2.2.2.2.2.2.2.1
theorem dX1_mixedWithList_0 : decode cX1_mixedWithList 0 = .ok (.lload_n 1, 1) := fdf dAb_103.2.2.2.2.2.2.2.2.2.2.2.2.2.2.1
theorem dX1_mixedWithList_1 : decode cX1_mixedWithList 1 = .ok (.aload_n 0, 1) := fdf dAb_103.2.2.2.2.2.2.2.2.2.2.2.2.2.2.2
theorem dAb_104 : fdq cX1_mixedWithList 2 (.iload_n 3) 1 = true ∧ fdq cX1_mixedWithList 3 (.invokevirtual 265) 3 = true ∧ fdq cX1_mixedWithList 6 (.i2l) 1 = true ∧ fdq cX1_mixedWithList 7 (.invokestatic 173) 3 = true ∧ fdq cX1_mixedWithList 10 (.aload_n 0) 1 = true ∧ fdq cX1_mixedWithList 11 (.iload_n 3) 1 = true ∧ fdq cX1_mixedWithList 12 (.invokevirtual 268) 3 = true ∧ fdq cX1_mixedWithList 15 (.i2l) 1 = true ∧ fdq cX1_mixedWithList 16 (.invokestatic 173) 3 = true ∧ fdq cX1_mixedWithList 19 (.lstore 4) 2 = true ∧ fdq cX1_mixedWithList 21 (.aload_n 0) 1 = true ∧ fdq cX1_mixedWithList 22 (.iload_n 3) 1 = true ∧ fdq cX1_mixedWithList 23 (.invokevirtual 155) 3 = true ∧ fdq cX1_mixedWithList 26 (.ifnull 42) 3 = true ∧ fdq cX1_mixedWithList 29 (.lload 4) 2 = true ∧ fdq cX1_mixedWithList 31 (.aload_n 0) 1 = true := by decide +kernel
theorem dX1_mixedWithList_2 : decode cX1_mixedWithList 2 = .ok (.iload_n 3, 1) := fdf dAb_104.1
theorem dX1_mixedWithList_3 : decode cX1_mixedWithList 3 = .ok (.invokevirtual 265, 3) := fdf dAb_104.2.1
theorem dX1_mixedWithList_6 : decode cX1_mixedWithList 6 = .ok (.i2l, 1) := fdf dAb_104.2.2.1
theorem dX1_mixedWithList_7 : decode cX1_mixedWithList 7 = .ok (.invokestatic 173, 3) := fdf dAb_104.2.2.2.1
theorem dX1_mixedWithList_10 : decode cX1_mixedWithList 10 = .ok (.aload_n 0, 1) := fdf dAb_104.2.2.2.2.1
theorem dX1_mixedWithList_11 : decode cX1_mixedWithList 11 = .ok (.iload_n 3, 1) := fdf dAb_104.2.2.2.2.2.1
theorem dX1_mixedWithList_12 : decode cX1_mixedWithList 12 = .ok (.invokevirtual 268, 3) := fdf dAb_104.2.2.2.2.2.2.1
theorem dX1_mixedWithList_15 : decode cX1_mixedWithList 15 = .ok (.i2l, 1) := fdf dAb_104.2.2.2.2.2.2.2.1
theorem dX1_mixedWithList_16 : decode cX1_mixedWithList 16 = .ok (.invokestatic 173, 3) := fdf dAb_104.2.2.2.2.2.2.2.2.1
theorem dX1_mixedWithList_19 : decode cX1_mixedWithList 19 = .ok (.lstore 4, 2) := fdf dAb_104.2.2.2.2.2.2.2.2.2.1
theorem dX1_mixedWithList_21 : decode cX1_mixedWithList 21 = .ok (.aload_n 0, 1) := fdf dAb_104.2.2.2.2.2.2.2.2.2.2.1
theorem dX1_mixedWithList_22 : decode cX1_mixedWithList 22 = .ok (.iload_n 3, 1) := fdf dAb_104.2.2.2.2.2.2.2.2.2.2.2.1
theorem dX1_mixedWithList_23 : decode cX1_mixedWithList 23 = .ok (.invokevirtual 155, 3) := fdf dAb_104.2.2.2.2.2.2.2.2.2.2.2.2.1
theorem dX1_mixedWithList_26 : decode cX1_mixedWithList 26 = .ok (.ifnull 42, 3) := fdf dAb_104.2.2.2.2.2.2.2.2.2.2.2.2.2.1
theorem dX1_mixedWithList_29 : decode cX1_mixedWithList 29 = .ok (.lload 4, 2) := fdf dAb_104.2.2.2.2.2.2.2.2.2.2.2.2.2.2.1
theorem dX1_mixedWithList_31 : decode cX1_mixedWithList 31 = .ok (.aload_n 0, 1) := fdf dAb_104.2.2.2.2.2.2.2.2.2.2.2.2.2.2.2
theorem dAb_105 : fdq cX1_mixedWithList 32 (.iload_n 3) 1 = true ∧ fdq cX1_mixedWithList 33 (.invokevirtual 270) 3 = true ∧ fdq cX1_mixedWithList 36 (.i2l) 1 = true ∧ fdq cX1_mixedWithList 37 (.invokestatic 173) 3 = true ∧ fdq cX1_mixedWithList 40 (.lstore 4) 2 = true ∧ fdq cX1_mixedWithList 42 (.lload 4) 2 = true ∧ fdq cX1_mixedWithList 44 (.aload_n 0) 1 = true ∧ fdq cX1_mixedWithList 45 (.iload_n 3) 1 = true ∧ fdq cX1_mixedWithList 46 (.invokevirtual 272) 3 = true ∧ fdq cX1_mixedWithList 49 (.i2l) 1 = true ∧ fdq cX1_mixedWithList 50 (.invokestatic 173) 3 = true ∧ fdq cX1_mixedWithList 53 (.lstore 4) 2 = true ∧ fdq cX1_mixedWithList 55 (.lload 4) 2 = true ∧ fdq cX1_mixedWithList 57 (.aload_n 0) 1 = true ∧ fdq cX1_mixedWithList 58 (.iload_n 3) 1 = true ∧ fdq cX1_mixedWithList 59 (.invokevirtual 275) 3 = true := by decide +kernel
theorem dX1_mixedWithList_32 : decode cX1_mixedWithList 32 = .ok (.iload_n 3, 1) := fdf dAb_105.1
theorem dX1_mixedWithList_33 : decode cX1_mixedWithList 33 = .ok (.invokevirtual 270, 3) := fdf dAb_105.2.1
theorem dX1_mixedWithList_36 : decode cX1_mixedWithList 36 = .ok (.i2l, 1) := fdf dAb_105.2.2.1
theorem dX1_mixedWithList_37 : decode cX1_mixedWithList 37 = .ok (.invokestatic 173, 3) := fdf dAb_105.2.2.2.1
theorem dX1_mixedWithList_40 : decode cX1_mixedWithList 40 = .ok (.lstore 4, 2) := fdf dAb_105.2.2.2.2.1
theorem dX1_mixedWithList_42 : decode cX1_mixedWithList 42 = .ok (.lload 4, 2) := fdf dAb_105.2.2.2.2.2.1
theorem dX1_mixedWithList_44 : decode cX1_mixedWithList 44 = .ok (.aload_n 0, 1) := fdf dAb_105.2.2.2.2.2.2.1
theorem dX1_mixedWithList_45 : decode cX1_mixedWithList 45 = .ok (.iload_n 3, 1) := fdf dAb_105.2.2.2.2.2.2.2.1
theorem dX1_mixedWithList_46 : decode cX1_mixedWithList 46 = .ok (.invokevirtual 272, 3) := fdf dAb_105.2.2.2.2.2.2.2.2.1
theorem dX1_mixedWithList_49 : decode cX1_mixedWithList 49 = .ok (.i2l, 1) := fdf dAb_105.2.2.2.2.2.2.2.2.2.1
theorem dX1_mixedWithList_50 : decode cX1_mixedWithList 50 = .ok (.invokestatic 173, 3) := fdf dAb_105.2.2.2.2.2.2.2.2.2.2.1
theorem dX1_mixedWithList_53 : decode cX1_mixedWithList 53 = .ok (.lstore 4, 2) := fdf dAb_105.2.2.2.2.2.2.2.2.2.2.2.1
theorem dX1_mixedWithList_55 : decode cX1_mixedWithList 55 = .ok (.lload 4, 2) := fdf dAb_105.2.2.2.2.2.2.2.2.2.2.2.2.1
theorem dX1_mixedWithList_57 : decode cX1_mixedWithList 57 = .ok (.aload_n 0, 1) := fdf dAb_105.2.2.2.2.2.2.2.2.2.2.2.2.2.1
theorem dX1_mixedWithList_58 : decode cX1_mixedWithList 58 = .ok (.iload_n 3, 1) := fdf dAb_105.2.2.2.2.2.2.2.2.2.2.2.2.2.2.1
theorem dX1_mixedWithList_59 : decode cX1_mixedWithList 59 = .ok (.invokevirtual 275, 3) := fdf dAb_105.2.2.2.2.2.2.2.2.2.2.2.2.2.2.2
theorem dAb_106 : fdq cX1_mixedWithList 62 (.i2l) 1 = true ∧ fdq cX1_mixedWithList 63 (.invokestatic 173) 3 = true ∧ fdq cX1_mixedWithList 66 (.lstore 4) 2 = true ∧ fdq cX1_mixedWithList 68 (.lload 4) 2 = true ∧ fdq cX1_mixedWithList 70 (.lreturn) 1 = true ∧ fdq cX2_init 0 (.aload_n 0) 1 = true ∧ fdq cX2_init 1 (.invokespecial 1) 3 = true ∧ fdq cX2_init 4 (.return_) 1 = true ∧ fdq cX3_init 0 (.aload_n 0) 1 = true ∧ fdq cX3_init 1 (.invokespecial 1) 3 = true ∧ fdq cX3_init 4 (.aload_n 0) 1 = true ∧ fdq cX3_init 5 (.iconst 3) 1 = true ∧ fdq cX3_init 6 (.anewarray 7) 3 = true ∧ fdq cX3_init 9 (.dup) 1 = true ∧ fdq cX3_init 10 (.iconst 0) 1 = true ∧ fdq cX3_init 11 (.iconst 4) 1 = true := by decide +kernel
theorem dX1_mixedWithList_62 : decode cX1_mixedWithList 62 = .ok (.i2l, 1) := fdf dAb_106.1
theorem dX1_mixedWithList_63 : decode cX1_mixedWithList 63 = .ok (.invokestatic 173, 3) := fdf dAb_106.2.1
theorem dX1_mixedWithList_66 : decode cX1_mixedWithList 66 = .ok (.lstore 4, 2) := fdf dAb_106.2.2.1
theorem dX1_mixedWithList_68 : decode cX1_mixedWithList 68 = .ok (.lload 4, 2) := fdf dAb_106.2.2.2.1
theorem dX1_mixedWithList_70 : decode cX1_mixedWithList 70 = .ok (.lreturn, 1) := fdf dAb_106.2.2.2.2.1
theorem dX2_init_0 : decode cX2_init 0 = .ok (.aload_n 0, 1) := fdf dAb_106.2.2.2.2.2.1
theorem dX2_init_1 : decode cX2_init 1 = .ok (.invokespecial 1, 3) := fdf dAb_106.2.2.2.2.2.2.1
theorem dX2_init_4 : decode cX2_init 4 = .ok (.return_, 1) := fdf dAb_106.2.2.2.2.2.2.2.1
theorem dX3_init_0 : decode cX3_init 0 = .ok (.aload_n 0, 1) := fdf dAb_106.2.2.2.2.2.2.2.2.1
theorem dX3_init_1 : decode cX3_init 1 = .ok (.invokespecial 1, 3) := fdf dAb_106.2.2.2.2.2.2.2.2.2.1
theorem dX3_init_4 : decode cX3_init 4 = .ok (.aload_n 0, 1) := fdf dAb_106.2.2.2.2.2.2.2.2.2.2.1
theorem dX3_init_5 : decode cX3_init 5 = .ok (.iconst 3, 1) := fdf dAb_106.2.2.2.2.2.2.2.2.2.2.2.1
theorem dX3_init_6 : decode cX3_init 6 = .ok (.anewarray 7, 3) := fdf dAb_106.2.2.2.2.2.2.2.2.2.2.2.2.1
theorem dX3_init_9 : decode cX3_init 9 = .ok (.dup, 1) := fdf dAb_106.2.2.2.2.2.2.2.2.2.2.2.2.2.1
theorem dX3_init_10 : decode cX3_init 10 = .ok (.iconst 0, 1) := fdf dAb_106.2.2.2.2.2.2.2.2.2.2.2.2.2.2.1
theorem dX3_init_11 : decode cX3_init 11 = .ok (.iconst 4, 1) := fdf dAb_106.2.2.2.2.2.2.2.2.2.2.2.2.2.2.2
theorem dAb_107 : fdq cX3_init 14 (.aastore) 1 = true ∧ fdq cX3_init 15 (.dup) 1 = true ∧ fdq cX3_init 16 (.iconst 1) 1 = true ∧ fdq cX3_init 17 (.iconst 4) 1 = true ∧ fdq cX3_init 20 (.aastore) 1 = true ∧ fdq cX3_init 21 (.dup) 1 = true ∧ fdq cX3_init 22 (.iconst 2) 1 = true ∧ fdq cX3_init 23 (.iconst 4) 1 = true ∧ fdq cX3_init 26 (.aastore) 1 = true ∧ fdq cX3_init 27 (.putfield 9) 3 = true ∧ fdq cX3_init 30 (.aload_n 0) 1 = true ∧ fdq cX3_init 31 (.bipush 7) 2 = true ∧ fdq cX3_init 35 (.dup) 1 = true ∧ fdq cX3_init 36 (.iconst 0) 1 = true ∧ fdq cX3_init 37 (.iconst 0) 1 = true ∧ fdq cX3_init 38 (.iastore) 1 = true := by decide +kernel
theorem dX3_init_14 : decode cX3_init 14 = .ok (.aastore, 1) := fdf dAb_107.1
theorem dX3_init_15 : decode cX3_init 15 = .ok (.dup, 1) := fdf dAb_107.2.1
theorem dX3_init_16 : decode cX3_init 16 = .ok (.iconst 1, 1) := fdf dAb_107.2.2.1
theorem dX3_init_17 : decode cX3_init 17 = .ok (.iconst 4, 1) := fdf dAb_107.2.2.2.1
theorem dX3_init_20 : decode cX3_init 20 = .ok (.aastore, 1) := fdf dAb_107.2.2.2.2.1
theorem dX3_init_21 : decode cX3_init 21 = .ok (.dup, 1) := fdf dAb_107.2.2.2.2.2.1
theorem dX3_init_22 : decode cX3_init 22 = .ok (.iconst 2, 1) := fdf dAb_107.2.2.2.2.2.2.1
theorem dX3_init_23 : decode cX3_init 23 = .ok (.iconst 4, 1) := fdf dAb_107.2.2.2.2.2.2.2.1
theorem dX3_init_26 : decode cX3_init 26 = .ok (.aastore, 1) := fdf dAb_107.2.2.2.2.2.2.2.2.1
theorem dX3_init_27 : decode cX3_init 27 = .ok (.putfield 9, 3) := fdf dAb_107.2.2.2.2.2.2.2.2.2.1
theorem dX3_init_30 : decode cX3_init 30 = .ok (.aload_n 0, 1) := fdf dAb_107.2.2.2.2.2.2.2.2.2.2.1
theorem dX3_init_31 : decode cX3_init 31 = .ok (.bipush 7, 2) := fdf dAb_107.2.2.2.2.2.2.2.2.2.2.2.1
theorem dX3_init_35 : decode cX3_init 35 = .ok (.dup, 1) := fdf dAb_107.2.2.2.2.2.2.2.2.2.2.2.2.1
theorem dX3_init_36 : decode cX3_init 36 = .ok (.iconst 0, 1) := fdf dAb_107.2.2.2.2.2.2.2.2.2.2.2.2.2.1
theorem dX3_init_37 : decode cX3_init 37 = .ok (.iconst 0, 1) := fdf dAb_107.2.2.2.2.2.2.2.2.2.2.2.2.2.2.1
theorem dX3_init_38 : decode cX3_init 38 = .ok (.iastore, 1) := fdf dAb_107.2.2.2.2.2.2.2.2.2.2.2.2.2.2.2
theorem dAb_108 : fdq cX3_init 39 (.dup) 1 = true ∧ fdq cX3_init 40 (.iconst 1) 1 = true ∧ fdq cX3_init 41 (.iconst 1) 1 = true ∧ fdq cX3_init 42 (.iastore) 1 = true ∧ fdq cX3_init 43 (.dup) 1 = true ∧ fdq cX3_init 44 (.iconst 2) 1 = true ∧ fdq cX3_init 45 (.iconst 2) 1 = true ∧ fdq cX3_init 46 (.iastore) 1 = true ∧ fdq cX3_init 47 (.dup) 1 = true ∧ fdq cX3_init 48 (.iconst 3) 1 = true ∧ fdq cX3_init 49 (.iconst (-1)) 1 = true ∧ fdq cX3_init 50 (.iastore) 1 = true ∧ fdq cX3_init 51 (.dup) 1 = true ∧ fdq cX3_init 52 (.iconst 4) 1 = true ∧ fdq cX3_init 53 (.iconst (-1)) 1 = true ∧ fdq cX3_init 54 (.iastore) 1 = true := by decide +kernel
theorem dX3_init_39 : decode cX3_init 39 = .ok (.dup, 1) := fdf dAb_108.1
theorem dX3_init_40 : decode cX3_init 40 = .ok (.iconst 1, 1) := fdf dAb_108.2.1
theorem dX3_init_41 : decode cX3_init 41 = .ok (.iconst 1, 1) := fdf dAb_108.2.2.1
theorem dX3_init_42 : decode cX3_init 42 = .ok (.iastore, 1) := fdf dAb_108.2.2.2.1
theorem dX3_init_43 : decode cX3_init 43 = .ok (.dup, 1) := fdf dAb_108.2.2.2.2.1
theorem dX3_init_44 : decode cX3_init 44 = .ok (.iconst 2, 1) := fdf dAb_108.2.2.2.2.2.1
theorem dX3_init_45 : decode cX3_init 45 = .ok (.iconst 2, 1) := fdf dAb_108.2.2.2.2.2.2.1
theorem dX3_init_46 : decode cX3_init 46 = .ok (.iastore, 1) := fdf dAb_108.2.2.2.2.2.2.2.1
theorem dX3_init_47 : decode cX3_init 47 = .ok (.dup, 1) := fdf dAb_108.2.2.2.2.2.2.2.2.1
theorem dX3_init_48 : decode cX3_init 48 = .ok (.iconst 3, 1) := fdf dAb_108.2.2.2.2.2.2.2.2.2.1
theorem dX3_init_49 : decode cX3_init 49 = .ok (.iconst (-1), 1) := fdf dAb_108.2.2.2.2.2.2.2.2.2.2.1
theorem dX3_init_50 : decode cX3_init 50 = .ok (.iastore, 1) := fdf dAb_108.2.2.2.2.2.2.2.2.2.2.2.1
theorem dX3_init_51 : decode cX3_init 51 = .ok (.dup, 1) := fdf dAb_108.2.2.2.2.2.2.2.2.2.2.2.2.1
theorem dX3_init_52 : decode cX3_init 52 = .ok (.iconst 4, 1) := fdf dAb_108.2.2.2.2.2.2.2.2.2.2.2.2.2.1
theorem dX3_init_53 : decode cX3_init 53 = .ok (.iconst (-1), 1) := fdf dAb_108.2.2.2.2.2.2.2.2.2.2.2.2.2.2.1
theorem dX3_init_54 : decode cX3_init 54 = .ok (.iastore, 1) := fdf dAb_108.2.2.2.2.2.2.2.2.2.2.2.2.2.2.2
theorem dAb_109 : fdq cX3_init 55 (.dup) 1 = true ∧ fdq cX3_init 56 (.iconst 5) 1 = true ∧ fdq cX3_init 57 (.iconst (-1)) 1 = true ∧ fdq cX3_init 58 (.iastore) 1 = true ∧ fdq cX3_init 59 (.dup) 1 = true ∧ fdq cX3_init 60 (.bipush 6) 2 = true ∧ fdq cX3_init 62 (.iconst (-1)) 1 = true ∧ fdq cX3_init 63 (.iastore) 1 = true ∧ fdq cX3_init 64 (.putfield 15) 3 = true ∧ fdq cX3_init 67 (.aload_n 0) 1 = true ∧ fdq cX3_init 68 (.bipush 7) 2 = true ∧ fdq cX3_init 72 (.putfield 18) 3 = true ∧ fdq cX3_init 75 (.aload_n 0) 1 = true ∧ fdq cX3_init 76 (.bipush 7) 2 = true ∧ fdq cX3_init 80 (.dup) 1 = true ∧ fdq cX3_init 81 (.iconst 0) 1 = true := by decide +kernel
theorem dX3_init_55 : decode cX3_init 55 = .ok (.dup, 1) := fdf dAb_109.1
theorem dX3_init_56 : decode cX3_init 56 = .ok (.iconst 5, 1) := fdf dAb_109.2.1
theorem dX3_init_57 : decode cX3_init 57 = .ok (.iconst (-1), 1) := fdf dAb_109.2.2.1
theorem dX3_init_58 : decode cX3_init 58 = .ok (.iastore, 1) := fdf dAb_109.2.2.2.1
theorem dX3_init_59 : decode cX3_init 59 = .ok (.dup, 1) := fdf dAb_109.2.2.2.2.1
theorem dX3_init_60 : decode cX3_init 60 = .ok (.bipush 6, 2) := fdf dAb_109.2.2.2.2.2.1
theorem dX3_init_62 : decode cX3_init 62 = .ok (.iconst (-1), 1) := fdf dAb_109.2.2.2.2.2.2.1
theorem dX3_init_63 : decode cX3_init 63 = .ok (.iastore, 1) := fdf dAb_109.2.2.2.2.2.2.2.1
theorem dX3_init_64 : decode cX3_init 64 = .ok (.putfield 15, 3) := fdf dAb_109.2.2.2.2.2.2.2.2.1
theorem dX3_init_67 : decode cX3_init 67 = .ok (.aload_n 0, 1) := fdf dAb_109.2.2.2.2.2.2.2.2.2.1
theorem dX3_init_68 : decode cX3_init 68 = .ok (.bipush 7, 2) := fdf dAb_109.2.2.2.2.2.2.2.2.2.2.1
theorem dX3_init_72 : decode cX3_init 72 = .ok (.putfield 18, 3) := fdf dAb_109.2.2.2.2.2.2.2.2.2.2.2.1
theorem dX3_init_75 : decode cX3_init 75 = .ok (.aload_n 0, 1) := fdf dAb_109.2.2.2.2.2.2.2.2.2.2.2.2.1
theorem dX3_init_76 : decode cX3_init 76 = .ok (.bipush 7, 2) := fdf dAb_109.2.2.2.2.2.2.2.2.2.2.2.2.2.1
theorem dX3_init_80 : decode cX3_init 80 = .ok (.dup, 1) := fdf dAb_109.2.2.2.2.2.2.2.2.2.2.2.2.2.2.1
theorem dX3_init_81 : decode cX3_init 81 = .ok (.iconst 0, 1) := fdf dAb_109.2.2.2.2.2.2.2.2.2.2.2.2.2.2.2
theorem dAb_110 : fdq cX3_init 82 (.iconst 4) 1 = true ∧ fdq cX3_init 83 (.iastore) 1 = true ∧ fdq cX3_init 84 (.dup) 1 = true ∧ fdq cX3_init 85 (.iconst 1) 1 = true ∧ fdq cX3_init 86 (.iconst 4) 1 = true ∧ fdq cX3_init 87 (.iastore) 1 = true ∧ fdq cX3_init 88 (.dup) 1 = true ∧ fdq cX3_init 89 (.iconst 2) 1 = true ∧ fdq cX3_init 90 (.iconst 4) 1 = true ∧ fdq cX3_init 91 (.iastore) 1 = true ∧ fdq cX3_init 92 (.dup) 1 = true ∧ fdq cX3_init 93 (.iconst 3) 1 = true ∧ fdq cX3_init 94 (.iconst 0) 1 = true ∧ fdq cX3_init 95 (.iastore) 1 = true ∧ fdq cX3_init 96 (.dup) 1 = true ∧ fdq cX3_init 97 (.iconst 4) 1 = true := by decide +kernel
theorem dX3_init_82 : decode cX3_init 82 = .ok (.iconst 4, 1) := fdf dAb_110.1
theorem dX3_init_83 : decode cX3_init 83 = .ok (.iastore, 1) := fdf dAb_110.2.1
theorem dX3_init_84 : decode cX3_init 84 = .ok (.dup, 1) := fdf dAb_110.2.2.1
theorem dX3_init_85 : decode cX3_init 85 = .ok (.iconst 1, 1) := fdf dAb_110.2.2.2.1
theorem dX3_init_86 : decode cX3_init 86 = .ok (.iconst 4, 1) := fdf dAb_110.2.2.2.2.1
theorem dX3_init_87 : decode cX3_init 87 = .ok (.iastore, 1) := fdf dAb_110.2.2.2.2.2.1
theorem dX3_init_88 : decode cX3_init 88 = .ok (.dup, 1) := fdf dAb_110.2.2.2.2.2.2.1
theorem dX3_init_89 : decode cX3_init 89 = .ok (.iconst 2, 1) := fdf dAb_110.2.2.2.2.2.2.2.1
theorem dX3_init_90 : decode cX3_init 90 = .ok (.iconst 4, 1) := fdf dAb_110.2.2.2.2.2.2.2.2.1
theorem dX3_init_91 : decode cX3_init 91 = .ok (.iastore, 1) := fdf dAb_110.2.2.2.2.2.2.2.2.2.1
theorem dX3_init_92 : decode cX3_init 92 = .ok (.dup, 1) := fdf dAb_110.2.2.2.2.2.2.2.2.2.2.1
theorem dX3_init_93 : decode cX3_init 93 = .ok (.iconst 3, 1) := fdf dAb_110.2.2.2.2.2.2.2.2.2.2.2.1
theorem dX3_init_94 : decode cX3_init 94 = .ok (.iconst 0, 1) := fdf dAb_110.2.2.2.2.2.2.2.2.2.2.2.2.1
theorem dX3_init_95 : decode cX3_init 95 = .ok (.iastore, 1) := fdf dAb_110.2.2.2.2.2.2.2.2.2.2.2.2.2.1
theorem dX3_init_96 : decode cX3_init 96 = .ok (.dup, 1) := fdf dAb_110.2.2.2.2.2.2.2.2.2.2.2.2.2.2.1
theorem dX3_init_97 : decode cX3_init 97 = .ok (.iconst 4, 1) := fdf dAb_110.2.2.2.2.2.2.2.2.2.2.2.2.2.2.2
theorem dAb_111 : fdq cX3_init 98 (.iconst 0) 1 = true ∧ fdq cX3_init 99 (.iastore) 1 = true ∧ fdq cX3_init 100 (.dup) 1 = true ∧ fdq cX3_init 101 (.iconst 5) 1 = true ∧ fdq cX3_init 102 (.iconst 0) 1 = true ∧ fdq cX3_init 103 (.iastore) 1 = true ∧ fdq cX3_init 104 (.dup) 1 = true ∧ fdq cX3_init 105 (.bipush 6) 2 = true ∧ fdq cX3_init 107 (.iconst 0) 1 = true ∧ fdq cX3_init 108 (.iastore) 1 = true ∧ fdq cX3_init 109 (.putfield 21) 3 = true ∧ fdq cX3_init 112 (.return_) 1 = true ∧ fdq cX3_isIn 0 (.iload_n 0) 1 = true ∧ fdq cX3_isIn 1 (.iload_n 1) 1 = true ∧ fdq cX3_isIn 2 (.if_icmp .lt 12) 3 = true ∧ fdq cX3_isIn 5 (.iload_n 0) 1 = true := by decide +kernel
theorem dX3_init_98 : decode cX3_init 98 = .ok (.iconst 0, 1) := fdf dAb_111.1
theorem dX3_init_99 : decode cX3_init 99 = .ok (.iastore, 1) := fdf dAb_111.2.1
theorem dX3_init_100 : decode cX3_init 100 = .ok (.dup, 1) := fdf dAb_111.2.2.1
theorem dX3_init_101 : decode cX3_init 101 = .ok (.iconst 5, 1) := fdf dAb_111.2.2.2.1
theorem dX3_init_102 : decode cX3_init 102 = .ok (.iconst 0, 1) := fdf dAb_111.2.2.2.2.1
theorem dX3_init_103 : decode cX3_init 103 = .ok (.iastore, 1) := fdf dAb_111.2.2.2.2.2.1
theorem dX3_init_104 : decode cX3_init 104 = .ok (.dup, 1) := fdf dAb_111.2.2.2.2.2.2.1
theorem dX3_init_105 : decode cX3_init 105 = .ok (.bipush 6, 2) := fdf dAb_111.2.2.2.2.2.2.2.1
theorem dX3_init_107 : decode cX3_init 107 = .ok (.iconst 0, 1) := fdf dAb_111.2.2.2.2.2.2.2.2.1
theorem dX3_init_108 : decode cX3_init 108 = .ok (.iastore, 1) := fdf dAb_111.2.2.2.2.2.2.2.2.2.1
theorem dX3_init_109 : decode cX3_init 109 = .ok (.putfield 21, 3) := fdf dAb_111.2.2.2.2.2.2.2.2.2.2.1
theorem dX3_init_112 : decode cX3_init 112 = .ok (.return_, 1) := fdf dAb_111.2.2.2.2.2.2.2.2.2.2.2.1
theorem dX3_isIn_0 : decode cX3_isIn 0 = .ok (.iload_n 0, 1) := fdf dAb_111.2.2.2.2.2.2.2.2.2.2.2.2.1
theorem dX3_isIn_1 : decode cX3_isIn 1 = .ok (.iload_n 1, 1) := fdf dAb_111.2.2.2.2.2.2.2.2.2.2.2.2.2.1
theorem dX3_isIn_2 : decode cX3_isIn 2 = .ok (.if_icmp .lt 12, 3) := fdf dAb_111.2.2.2.2.2.2.2.2.2.2.2.2.2.2.1
theorem dX3_isIn_5 : decode cX3_isIn 5 = .ok (.iload_n 0, 1) := fdf dAb_111.2.2.2.2.2.2.2.2.2.2.2.2.2.2.2
theorem dAb_112 : fdq cX3_isIn 6 (.iload_n 2) 1 = true ∧ fdq cX3_isIn 7 (.if_icmp .gt 7) 3 = true ∧ fdq cX3_isIn 10 (.iconst 1) 1 = true ∧ fdq cX3_isIn 11 (.goto 4) 3 = true ∧ fdq cX3_isIn 14 (.iconst 0) 1 = true ∧ fdq cX3_isIn 15 (.ireturn) 1 = true ∧ fdq cX3_one 0 (.iload_n 0) 1 = true ∧ fdq cX3_one 1 (.ifCond .eq 7) 3 = true ∧ fdq cX3_one 4 (.iconst 1) 1 = true ∧ fdq cX3_one 5 (.goto 4) 3 = true ∧ fdq cX3_one 8 (.iconst 0) 1 = true ∧ fdq cX3_one 9 (.ireturn) 1 = true ∧ fdq cX3_isNoValue 0 (.iload_n 0) 1 = true ∧ fdq cX3_isNoValue 1 (.sipush (-1000)) 3 = true ∧ fdq cX3_isNoValue 4 (.if_icmp .eq 18) 3 = true ∧ fdq cX3_isNoValue 7 (.iload_n 0) 1 = true := by decide +kernel
theorem dX3_isIn_6 : decode cX3_isIn 6 = .ok (.iload_n 2, 1) := fdf dAb_112.1
theorem dX3_isIn_7 : decode cX3_isIn 7 = .ok (.if_icmp .gt 7, 3) := fdf dAb_112.2.1
theorem dX3_isIn_10 : decode cX3_isIn 10 = .ok (.iconst 1, 1) := fdf dAb_112.2.2.1
theorem dX3_isIn_11 : decode cX3_isIn 11 = .ok (.goto 4, 3) := fdf dAb_112.2.2.2.1
theorem dX3_isIn_14 : decode cX3_isIn 14 = .ok (.iconst 0, 1) := fdf dAb_112.2.2.2.2.1
theorem dX3_isIn_15 : decode cX3_isIn 15 = .ok (.ireturn, 1) := fdf dAb_112.2.2.2.2.2.1
theorem dX3_one_0 : decode cX3_one 0 = .ok (.iload_n 0, 1) := fdf dAb_112.2.2.2.2.2.2.1
theorem dX3_one_1 : decode cX3_one 1 = .ok (.ifCond .eq 7, 3) := fdf dAb_112.2.2.2.2.2.2.2.1
theorem dX3_one_4 : decode cX3_one 4 = .ok (.iconst 1, 1) := fdf dAb_112.2.2.2.2.2.2.2.2.1
theorem dX3_one_5 : decode cX3_one 5 = .ok (.goto 4, 3) := fdf dAb_112.2.2.2.2.2.2.2.2.2.1
theorem dX3_one_8 : decode cX3_one 8 = .ok (.iconst 0, 1) := fdf dAb_112.2.2.2.2.2.2.2.2.2.2.1
theorem dX3_one_9 : decode cX3_one 9 = .ok (.ireturn, 1) := fdf dAb_112.2.2.2.2.2.2.2.2.2.2.2.1
theorem dX3_isNoValue_0 : decode cX3_isNoValue 0 = .ok (.iload_n 0, 1) := fdf dAb_112.2.2.2.2.2.2.2.2.2.2.2.2.1
theorem dX3_isNoValue_1 : decode cX3_isNoValue 1 = .ok (.sipush (-1000), 3) := fdf dAb_112.2.2.2.2.2.2.2.2.2.2.2.2.2.1
theorem dX3_isNoValue_4 : decode cX3_isNoValue 4 = .ok (.if_icmp .eq 18, 3) := fdf dAb_112.2.2.2.2.2.2.2.2.2.2.2.2.2.2.1
theorem dX3_isNoValue_7 : decode cX3_isNoValue 7 = .ok (.iload_n 0, 1) := fdf dAb_112.2.2.2.2.2.2.2.2.2.2.2.2.2.2.2
theorem dAb_113 : fdq cX3_isNoValue 8 (.bipush (-99)) 2 = true ∧ fdq cX3_isNoValue 10 (.bipush 99) 2 = true ∧ fdq cX3_isNoValue 12 (.invokestatic 24) 3 = true ∧ fdq cX3_isNoValue 15 (.ifCond .ne 7) 3 = true ∧ fdq cX3_isNoValue 18 (.iconst 1) 1 = true ∧ fdq cX3_isNoValue 19 (.goto 4) 3 = true ∧ fdq cX3_isNoValue 22 (.iconst 0) 1 = true ∧ fdq cX3_isNoValue 23 (.ireturn) 1 = true ∧ fdq cX3_fails 0 (.aload_n 0) 1 = true ∧ fdq cX3_fails 1 (.iload_n 1) 1 = true ∧ fdq cX3_fails 2 (.ifCond .eq 7) 3 = true ∧ fdq cX3_fails 5 (.iconst 1) 1 = true ∧ fdq cX3_fails 6 (.goto 12) 3 = true ∧ fdq cX3_fails 9 (.iload_n 2) 1 = true ∧ fdq cX3_fails 10 (.ifCond .eq 7) 3 = true ∧ fdq cX3_fails 13 (.iconst 2) 1 = true := by decide +kernel
theorem dX3_isNoValue_8 : decode cX3_isNoValue 8 = .ok (.bipush (-99), 2) := fdf dAb_113.1
theorem dX3_isNoValue_10 : decode cX3_isNoValue 10 = .ok (.bipush 99, 2) := fdf dAb_113.2.1
theorem dX3_isNoValue_12 : decode cX3_isNoValue 12 = .ok (.invokestatic 24, 3) := fdf dAb_113.2.2.1
theorem dX3_isNoValue_15 : decode cX3_isNoValue 15 = .ok (.ifCond .ne 7, 3) := fdf dAb_113.2.2.2.1
theorem dX3_isNoValue_18 : decode cX3_isNoValue 18 = .ok (.iconst 1, 1) := fdf dAb_113.2.2.2.2.1
theorem dX3_isNoValue_19 : decode cX3_isNoValue 19 = .ok (.goto 4, 3) := fdf dAb_113.2.2.2.2.2.1
theorem dX3_isNoValue_22 : decode cX3_isNoValue 22 = .ok (.iconst 0, 1) := fdf dAb_113.2.2.2.2.2.2.1
theorem dX3_isNoValue_23 : decode cX3_isNoValue 23 = .ok (.ireturn, 1) := fdf dAb_113.2.2.2.2.2.2.2.1
theorem dX3_fails_0 : decode cX3_fails 0 = .ok (.aload_n 0, 1) := fdf dAb_113.2.2.2.2.2.2.2.2.1
theorem dX3_fails_1 : decode cX3_fails 1 = .ok (.iload_n 1, 1) := fdf dAb_113.2.2.2.2.2.2.2.2.2.1
theorem dX3_fails_2 : decode cX3_fails 2 = .ok (.ifCond .eq 7, 3) := fdf dAb_113.2.2.2.2.2.2.2.2.2.2.1
theorem dX3_fails_5 : decode cX3_fails 5 = .ok (.iconst 1, 1) := fdf dAb_113.2.2.2.2.2.2.2.2.2.2.2.1
theorem dX3_fails_6 : decode cX3_fails 6 = .ok (.goto 12, 3) := fdf dAb_113.2.2.2.2.2.2.2.2.2.2.2.2.1
theorem dX3_fails_9 : decode cX3_fails 9 = .ok (.iload_n 2, 1) := fdf dAb_113.2.2.2.2.2.2.2.2.2.2.2.2.2.1
theorem dX3_fails_10 : decode cX3_fails 10 = .ok (.ifCond .eq 7, 3) := fdf dAb_113.2.2.2.2.2.2.2.2.2.2.2.2.2.2.1
theorem dX3_fails_13 : decode cX3_fails 13 = .ok (.iconst 2, 1) := fdf dAb_113.2.2.2.2.2.2.2.2.2.2.2.2.2.2.2
theorem dAb_114 : fdq cX3_fails 14 (.goto 4) 3 = true ∧ fdq cX3_fails 17 (.iconst 0) 1 = true ∧ fdq cX3_fails 18 (.putfield 28) 3 = true ∧ fdq cX3_fails 21 (.aload_n 0) 1 = true ∧ fdq cX3_fails 22 (.getfield 28) 3 = true ∧ fdq cX3_fails 25 (.ifCond .le 7) 3 = true ∧ fdq cX3_fails 28 (.iconst 1) 1 = true ∧ fdq cX3_fails 29 (.goto 4) 3 = true ∧ fdq cX3_fails 32 (.iconst 0) 1 = true ∧ fdq cX3_fails 33 (.ireturn) 1 = true ∧ fdq cX3_isNoList 0 (.iload_n 1) 1 = true ∧ fdq cX3_isNoList 1 (.iconst 0) 1 = true ∧ fdq cX3_isNoList 2 (.bipush 6) 2 = true ∧ fdq cX3_isNoList 4 (.invokestatic 24) 3 = true ∧ fdq cX3_isNoList 7 (.ifCond .eq 13) 3 = true ∧ fdq cX3_isNoList 10 (.aload_n 0) 1 = true := by decide +kernel
theorem dX3_fails_14 : decode cX3_fails 14 = .ok (.goto 4, 3) := fdf dAb_114.1
theorem dX3_fails_17 : decode cX3_fails 17 = .ok (.iconst 0, 1) := fdf dAb_114.2.1
theorem dX3_fails_18 : decode cX3_fails 18 = .ok (.putfield 28, 3) := fdf dAb_114.2.2.1
theorem dX3_fails_21 : decode cX3_fails 21 = .ok (.aload_n 0, 1) := fdf dAb_114.2.2.2.1
theorem dX3_fails_22 : decode cX3_fails 22 = .ok (.getfield 28, 3) := fdf dAb_114.2.2.2.2.1
theorem dX3_fails_25 : decode cX3_fails 25 = .ok (.ifCond .le 7, 3) := fdf dAb_114.2.2.2.2.2.1
theorem dX3_fails_28 : decode cX3_fails 28 = .ok (.iconst 1, 1) := fdf dAb_114.2.2.2.2.2.2.1
theorem dX3_fails_29 : decode cX3_fails 29 = .ok (.goto 4, 3) := fdf dAb_114.2.2.2.2.2.2.2.1
theorem dX3_fails_32 : decode cX3_fails 32 = .ok (.iconst 0, 1) := fdf dAb_114.2.2.2.2.2.2.2.2.1
theorem dX3_fails_33 : decode cX3_fails 33 = .ok (.ireturn, 1) := fdf dAb_114.2.2.2.2.2.2.2.2.2.1
theorem dX3_isNoList_0 : decode cX3_isNoList 0 = .ok (.iload_n 1, 1) := fdf dAb_114.2.2.2.2.2.2.2.2.2.2.1
theorem dX3_isNoList_1 : decode cX3_isNoList 1 = .ok (.iconst 0, 1) := fdf dAb_114.2.2.2.2.2.2.2.2.2.2.2.1
theorem dX3_isNoList_2 : decode cX3_isNoList 2 = .ok (.bipush 6, 2) := fdf dAb_114.2.2.2.2.2.2.2.2.2.2.2.2.1
theorem dX3_isNoList_4 : decode cX3_isNoList 4 = .ok (.invokestatic 24, 3) := fdf dAb_114.2.2.2.2.2.2.2.2.2.2.2.2.2.1
theorem dX3_isNoList_7 : decode cX3_isNoList 7 = .ok (.ifCond .eq 13, 3) := fdf dAb_114.2.2.2.2.2.2.2.2.2.2.2.2.2.2.1
theorem dX3_isNoList_10 : decode cX3_isNoList 10 = .ok (.aload_n 0, 1) := fdf dAb_114.2.2.2.2.2.2.2.2.2.2.2.2.2.2.2
theorem dAb_115 : fdq cX3_isNoList 11 (.getfield 15) 3 = true ∧ fdq cX3_isNoList 14 (.iload_n 1) 1 = true ∧ fdq cX3_isNoList 15 (.iaload) 1 = true ∧ fdq cX3_isNoList 16 (.iconst (-1)) 1 = true ∧ fdq cX3_isNoList 17 (.if_icmp .ne 7) 3 = true ∧ fdq cX3_isNoList 20 (.iconst 1) 1 = true ∧ fdq cX3_isNoList 21 (.goto 4) 3 = true ∧ fdq cX3_isNoList 24 (.iconst 0) 1 = true ∧ fdq cX3_isNoList 25 (.ireturn) 1 = true ∧ fdq cX3_isNoPlace 0 (.aload_n 0) 1 = true ∧ fdq cX3_isNoPlace 1 (.iload_n 1) 1 = true ∧ fdq cX3_isNoPlace 2 (.invokevirtual 32) 3 = true ∧ fdq cX3_isNoPlace 5 (.ifCond .ne 19) 3 = true ∧ fdq cX3_isNoPlace 8 (.iload_n 2) 1 = true ∧ fdq cX3_isNoPlace 9 (.iconst 0) 1 = true ∧ fdq cX3_isNoPlace 10 (.aload_n 0) 1 = true := by decide +kernel
theorem dX3_isNoList_11 : decode cX3_isNoList 11 = .ok (.getfield 15, 3) := fdf dAb_115.1
theorem dX3_isNoList_14 : decode cX3_isNoList 14 = .ok (.iload_n 1, 1) := fdf dAb_115.2.1
theorem dX3_isNoList_15 : decode cX3_isNoList 15 = .ok (.iaload, 1) := fdf dAb_115.2.2.1
theorem dX3_isNoList_16 : decode cX3_isNoList 16 = .ok (.iconst (-1), 1) := fdf dAb_115.2.2.2.1
theorem dX3_isNoList_17 : decode cX3_isNoList 17 = .ok (.if_icmp .ne 7, 3) := fdf dAb_115.2.2.2.2.1
theorem dX3_isNoList_20 : decode cX3_isNoList 20 = .ok (.iconst 1, 1) := fdf dAb_115.2.2.2.2.2.1
theorem dX3_isNoList_21 : decode cX3_isNoList 21 = .ok (.goto 4, 3) := fdf dAb_115.2.2.2.2.2.2.1
theorem dX3_isNoList_24 : decode cX3_isNoList 24 = .ok (.iconst 0, 1) := fdf dAb_115.2.2.2.2.2.2.2.1
theorem dX3_isNoList_25 : decode cX3_isNoList 25 = .ok (.ireturn, 1) := fdf dAb_115.2.2.2.2.2.2.2.2.1
theorem dX3_isNoPlace_0 : decode cX3_isNoPlace 0 = .ok (.aload_n 0, 1) := fdf dAb_115.2.2.2.2.2.2.2.2.2.1
theorem dX3_isNoPlace_1 : decode cX3_isNoPlace 1 = .ok (.iload_n 1, 1) := fdf dAb_115.2.2.2.2.2.2.2.2.2.2.1
theorem dX3_isNoPlace_2 : decode cX3_isNoPlace 2 = .ok (.invokevirtual 32, 3) := fdf dAb_115.2.2.2.2.2.2.2.2.2.2.2.1
theorem dX3_isNoPlace_5 : decode cX3_isNoPlace 5 = .ok (.ifCond .ne 19, 3) := fdf dAb_115.2.2.2.2.2.2.2.2.2.2.2.2.1
theorem dX3_isNoPlace_8 : decode cX3_isNoPlace 8 = .ok (.iload_n 2, 1) := fdf dAb_115.2.2.2.2.2.2.2.2.2.2.2.2.2.1
theorem dX3_isNoPlace_9 : decode cX3_isNoPlace 9 = .ok (.iconst 0, 1) := fdf dAb_115.2.2.2.2.2.2.2.2.2.2.2.2.2.2.1
theorem dX3_isNoPlace_10 : decode cX3_isNoPlace 10 = .ok (.aload_n 0, 1) := fdf dAb_115.2.2.2.2.2.2.2.2.2.2.2.2.2.2.2
theorem dAb_116 : fdq cX3_isNoPlace 11 (.getfield 21) 3 = true ∧ fdq cX3_isNoPlace 14 (.iload_n 1) 1 = true ∧ fdq cX3_isNoPlace 15 (.iaload) 1 = true ∧ fdq cX3_isNoPlace 16 (.iconst 1) 1 = true ∧ fdq cX3_isNoPlace 17 (.isub) 1 = true ∧ fdq cX3_isNoPlace 18 (.invokestatic 24) 3 = true ∧ fdq cX3_isNoPlace 21 (.ifCond .ne 7) 3 = true ∧ fdq cX3_isNoPlace 24 (.iconst 1) 1 = true ∧ fdq cX3_isNoPlace 25 (.goto 4) 3 = true ∧ fdq cX3_isNoPlace 28 (.iconst 0) 1 = true ∧ fdq cX3_isNoPlace 29 (.ireturn) 1 = true ∧ fdq cX3_isNoRowPlace 0 (.iload_n 1) 1 = true ∧ fdq cX3_isNoRowPlace 1 (.iconst 0) 1 = true ∧ fdq cX3_isNoRowPlace 2 (.iconst 2) 1 = true ∧ fdq cX3_isNoRowPlace 3 (.invokestatic 24) 3 = true ∧ fdq cX3_isNoRowPlace 6 (.ifCond .eq 20) 3 = true := by decide +kernel
theorem dX3_isNoPlace_11 : decode cX3_isNoPlace 11 = .ok (.getfield 21, 3) := fdf dAb_116.1
theorem dX3_isNoPlace_14 : decode cX3_isNoPlace 14 = .ok (.iload_n 1, 1) := fdf dAb_116.2.1
theorem dX3_isNoPlace_15 : decode cX3_isNoPlace 15 = .ok (.iaload, 1) := fdf dAb_116.2.2.1
theorem dX3_isNoPlace_16 : decode cX3_isNoPlace 16 = .ok (.iconst 1, 1) := fdf dAb_116.2.2.2.1
theorem dX3_isNoPlace_17 : decode cX3_isNoPlace 17 = .ok (.isub, 1) := fdf dAb_116.2.2.2.2.1
theorem dX3_isNoPlace_18 : decode cX3_isNoPlace 18 = .ok (.invokestatic 24, 3) := fdf dAb_116.2.2.2.2.2.1
theorem dX3_isNoPlace_21 : decode cX3_isNoPlace 21 = .ok (.ifCond .ne 7, 3) := fdf dAb_116.2.2.2.2.2.2.1
theorem dX3_isNoPlace_24 : decode cX3_isNoPlace 24 = .ok (.iconst 1, 1) := fdf dAb_116.2.2.2.2.2.2.2.1
theorem dX3_isNoPlace_25 : decode cX3_isNoPlace 25 = .ok (.goto 4, 3) := fdf dAb_116.2.2.2.2.2.2.2.2.1
theorem dX3_isNoPlace_28 : decode cX3_isNoPlace 28 = .ok (.iconst 0, 1) := fdf dAb_116.2.2.2.2.2.2.2.2.2.1
theorem dX3_isNoPlace_29 : decode cX3_isNoPlace 29 = .ok (.ireturn, 1) := fdf dAb_116.2.2.2.2.2.2.2.2.2.2.1
theorem dX3_isNoRowPlace_0 : decode cX3_isNoRowPlace 0 = .ok (.iload_n 1, 1) := fdf dAb_116.2.2.2.2.2.2.2.2.2.2.2.1
theorem dX3_isNoRowPlace_1 : decode cX3_isNoRowPlace 1 = .ok (.iconst 0, 1) := fdf dAb_116.2.2.2.2.2.2.2.2.2.2.2.2.1
theorem dX3_isNoRowPlace_2 : decode cX3_isNoRowPlace 2 = .ok (.iconst 2, 1) := fdf dAb_116.2.2.2.2.2.2.2.2.2.2.2.2.2.1
theorem dX3_isNoRowPlace_3 : decode cX3_isNoRowPlace 3 = .ok (.invokestatic 24, 3) := fdf dAb_116.2.2.2.2.2.2.2.2.2.2.2.2.2.2.1
theorem dX3_isNoRowPlace_6 : decode cX3_isNoRowPlace 6 = .ok (.ifCond .eq 20, 3) := fdf dAb_116.2.2.2.2.2.2.2.2.2.2.2.2.2.2.2
theorem dAb_117 : fdq cX3_isNoRowPlace 9 (.iload_n 2) 1 = true ∧ fdq cX3_isNoRowPlace 10 (.iconst 0) 1 = true ∧ fdq cX3_isNoRowPlace 11 (.aload_n 0) 1 = true ∧ fdq cX3_isNoRowPlace 12 (.getfield 9) 3 = true ∧ fdq cX3_isNoRowPlace 15 (.iload_n 1) 1 = true ∧ fdq cX3_isNoRowPlace 16 (.aaload) 1 = true ∧ fdq cX3_isNoRowPlace 17 (.arraylength) 1 = true ∧ fdq cX3_isNoRowPlace 18 (.iconst 1) 1 = true ∧ fdq cX3_isNoRowPlace 19 (.isub) 1 = true ∧ fdq cX3_isNoRowPlace 20 (.invokestatic 24) 3 = true ∧ fdq cX3_isNoRowPlace 23 (.ifCond .ne 7) 3 = true ∧ fdq cX3_isNoRowPlace 26 (.iconst 1) 1 = true ∧ fdq cX3_isNoRowPlace 27 (.goto 4) 3 = true ∧ fdq cX3_isNoRowPlace 30 (.iconst 0) 1 = true ∧ fdq cX3_isNoRowPlace 31 (.ireturn) 1 = true ∧ fdq cX3_value 0 (.aload_n 0) 1 = true := by decide +kernel
theorem dX3_isNoRowPlace_9 : decode cX3_isNoRowPlace 9 = .ok (.iload_n 2, 1) := fdf dAb_117.1
theorem dX3_isNoRowPlace_10 : decode cX3_isNoRowPlace 10 = .ok (.iconst 0, 1) := fdf dAb_117.2.1
theorem dX3_isNoRowPlace_11 : decode cX3_isNoRowPlace 11 = .ok (.aload_n 0, 1) := fdf dAb_117.2.2.1
theorem dX3_isNoRowPlace_12 : decode cX3_isNoRowPlace 12 = .ok (.getfield 9, 3) := fdf dAb_117.2.2.2.1
theorem dX3_isNoRowPlace_15 : decode cX3_isNoRowPlace 15 = .ok (.iload_n 1, 1) := fdf dAb_117.2.2.2.2.1
theorem dX3_isNoRowPlace_16 : decode cX3_isNoRowPlace 16 = .ok (.aaload, 1) := fdf dAb_117.2.2.2.2.2.1
theorem dX3_isNoRowPlace_17 : decode cX3_isNoRowPlace 17 = .ok (.arraylength, 1) := fdf dAb_117.2.2.2.2.2.2.1
theorem dX3_isNoRowPlace_18 : decode cX3_isNoRowPlace 18 = .ok (.iconst 1, 1) := fdf dAb_117.2.2.2.2.2.2.2.1
theorem dX3_isNoRowPlace_19 : decode cX3_isNoRowPlace 19 = .ok (.isub, 1) := fdf dAb_117.2.2.2.2.2.2.2.2.1
theorem dX3_isNoRowPlace_20 : decode cX3_isNoRowPlace 20 = .ok (.invokestatic 24, 3) := fdf dAb_117.2.2.2.2.2.2.2.2.2.1
theorem dX3_isNoRowPlace_23 : decode cX3_isNoRowPlace 23 = .ok (.ifCond .ne 7, 3) := fdf dAb_117.2.2.2.2.2.2.2.2.2.2.1
theorem dX3_isNoRowPlace_26 : decode cX3_isNoRowPlace 26 = .ok (.iconst 1, 1) := fdf dAb_117.2.2.2.2.2.2.2.2.2.2.2.1
theorem dX3_isNoRowPlace_27 : decode cX3_isNoRowPlace 27 = .ok (.goto 4, 3) := fdf dAb_117.2.2.2.2.2.2.2.2.2.2.2.2.1
theorem dX3_isNoRowPlace_30 : decode cX3_isNoRowPlace 30 = .ok (.iconst 0, 1) := fdf dAb_117.2.2.2.2.2.2.2.2.2.2.2.2.2.1
theorem dX3_isNoRowPlace_31 : decode cX3_isNoRowPlace 31 = .ok (.ireturn, 1) := fdf dAb_117.2.2.2.2.2.2.2.2.2.2.2.2.2.2.1
theorem dX3_value_0 : decode cX3_value 0 = .ok (.aload_n 0, 1) := fdf dAb_117.2.2.2.2.2.2.2.2.2.2.2.2.2.2.2
theorem dAb_118 : fdq cX3_value 1 (.getfield 9) 3 = true ∧ fdq cX3_value 4 (.aload_n 0) 1 = true ∧ fdq cX3_value 5 (.getfield 15) 3 = true ∧ fdq cX3_value 8 (.iload_n 1) 1 = true ∧ fdq cX3_value 9 (.iaload) 1 = true ∧ fdq cX3_value 10 (.aaload) 1 = true ∧ fdq cX3_value 11 (.aload_n 0) 1 = true ∧ fdq cX3_value 12 (.getfield 18) 3 = true ∧ fdq cX3_value 15 (.iload_n 1) 1 = true ∧ fdq cX3_value 16 (.iaload) 1 = true ∧ fdq cX3_value 17 (.iload_n 2) 1 = true ∧ fdq cX3_value 18 (.iadd) 1 = true ∧ fdq cX3_value 19 (.iaload) 1 = true ∧ fdq cX3_value 20 (.ireturn) 1 = true ∧ fdq cX3_write 0 (.aload_n 0) 1 = true ∧ fdq cX3_write 1 (.getfield 9) 3 = true := by decide +kernel
theorem dX3_value_1 : decode cX3_value 1 = .ok (.getfield 9, 3) := fdf dAb_118.1
theorem dX3_value_4 : decode cX3_value 4 = .ok (.aload_n 0, 1) := fdf dAb_118.2.1
theorem dX3_value_5 : decode cX3_value 5 = .ok (.getfield 15, 3) := fdf dAb_118.2.2.1
theorem dX3_value_8 : decode cX3_value 8 = .ok (.iload_n 1, 1) := fdf dAb_118.2.2.2.1
theorem dX3_value_9 : decode cX3_value 9 = .ok (.iaload, 1) := fdf dAb_118.2.2.2.2.1
theorem dX3_value_10 : decode cX3_value 10 = .ok (.aaload, 1) := fdf dAb_118.2.2.2.2.2.1
theorem dX3_value_11 : decode cX3_value 11 = .ok (.aload_n 0, 1) := fdf dAb_118.2.2.2.2.2.2.1
theorem dX3_value_12 : decode cX3_value 12 = .ok (.getfield 18, 3) := fdf dAb_118.2.2.2.2.2.2.2.1
theorem dX3_value_15 : decode cX3_value 15 = .ok (.iload_n 1, 1) := fdf dAb_118.2.2.2.2.2.2.2.2.1
theorem dX3_value_16 : decode cX3_value 16 = .ok (.iaload, 1) := fdf dAb_118.2.2.2.2.2.2.2.2.2.1
theorem dX3_value_17 : decode cX3_value 17 = .ok (.iload_n 2, 1) := fdf dAb_118.2.2.2.2.2.2.2.2.2.2.1
theorem dX3_value_18 : decode cX3_value 18 = .ok (.iadd, 1) := fdf dAb_118.2.2.2.2.2.2.2.2.2.2.2.1
theorem dX3_value_19 : decode cX3_value 19 = .ok (.iaload, 1) := fdf dAb_118.2.2.2.2.2.2.2.2.2.2.2.2.1
theorem dX3_value_20 : decode cX3_value 20 = .ok (.ireturn, 1) := fdf dAb_118.2.2.2.2.2.2.2.2.2.2.2.2.2.1
theorem dX3_write_0 : decode cX3_write 0 = .ok (.aload_n 0, 1) := fdf dAb_118.2.2.2.2.2.2.2.2.2.2.2.2.2.2.1
theorem dX3_write_1 : decode cX3_write 1 = .ok (.getfield 9, 3) := fdf dAb_118.2.2.2.2.2.2.2.2.2.2.2.2.2.2.2
theorem dAb_119 : fdq cX3_write 4 (.aload_n 0) 1 = true ∧ fdq cX3_write 5 (.getfield 15) 3 = true ∧ fdq cX3_write 8 (.iload_n 1) 1 = true ∧ fdq cX3_write 9 (.iaload) 1 = true ∧ fdq cX3_write 10 (.aaload) 1 = true ∧ fdq cX3_write 11 (.aload_n 0) 1 = true ∧ fdq cX3_write 12 (.getfield 18) 3 = true ∧ fdq cX3_write 15 (.iload_n 1) 1 = true ∧ fdq cX3_write 16 (.iaload) 1 = true ∧ fdq cX3_write 17 (.iload_n 2) 1 = true ∧ fdq cX3_write 18 (.iadd) 1 = true ∧ fdq cX3_write 19 (.iload_n 3) 1 = true ∧ fdq cX3_write 20 (.iastore) 1 = true ∧ fdq cX3_write 21 (.return_) 1 = true ∧ fdq cX3_all 0 (.aload_n 0) 1 = true ∧ fdq cX3_all 1 (.getfield 21) 3 = true := by decide +kernel
theorem dX3_write_4 : decode cX3_write 4 = .ok (.aload_n 0, 1) := fdf dAb_119.1
theorem dX3_write_5 : decode cX3_write 5 = .ok (.getfield 15, 3) := fdf dAb_119.2.1
theorem dX3_write_8 : decode cX3_write 8 = .ok (.iload_n 1, 1) := fdf dAb_119.2.2.1
theorem dX3_write_9 : decode cX3_write 9 = .ok (.iaload, 1) := fdf dAb_119.2.2.2.1
theorem dX3_write_10 : decode cX3_write 10 = .ok (.aaload, 1) := fdf dAb_119.2.2.2.2.1
theorem dX3_write_11 : decode cX3_write 11 = .ok (.aload_n 0, 1) := fdf dAb_119.2.2.2.2.2.1
theorem dX3_write_12 : decode cX3_write 12 = .ok (.getfield 18, 3) := fdf dAb_119.2.2.2.2.2.2.1
theorem dX3_write_15 : decode cX3_write 15 = .ok (.iload_n 1, 1) := fdf dAb_119.2.2.2.2.2.2.2.1
theorem dX3_write_16 : decode cX3_write 16 = .ok (.iaload, 1) := fdf dAb_119.2.2.2.2.2.2.2.2.1
theorem dX3_write_17 : decode cX3_write 17 = .ok (.iload_n 2, 1) := fdf dAb_119.2.2.2.2.2.2.2.2.2.1
theorem dX3_write_18 : decode cX3_write 18 = .ok (.iadd, 1) := fdf dAb_119.2.2.2.2.2.2.2.2.2.2.1
theorem dX3_write_19 : decode cX3_write 19 = .ok (.iload_n 3, 1) := fdf dAb_119.2.2.2.2.2.2.2.2.2.2.2.1
theorem dX3_write_20 : decode cX3_write 20 = .ok (.iastore, 1) := fdf dAb_119.2.2.2.2.2.2.2.2.2.2.2.2.1
theorem dX3_write_21 : decode cX3_write 21 = .ok (.return_, 1) := fdf dAb_119.2.2.2.2.2.2.2.2.2.2.2.2.2.1
theorem dX3_all_0 : decode cX3_all 0 = .ok (.aload_n 0, 1) := fdf dAb_119.2.2.2.2.2.2.2.2.2.2.2.2.2.2.1
theorem dX3_all_1 : decode cX3_all 1 = .ok (.getfield 21, 3) := fdf dAb_119.2.2.2.2.2.2.2.2.2.2.2.2.2.2.2
theorem dAb_120 : fdq cX3_all 4 (.iload_n 1) 1 = true ∧ fdq cX3_all 5 (.iaload) 1 = true ∧ fdq cX3_all 8 (.astore_n 2) 1 = true ∧ fdq cX3_all 9 (.iconst 0) 1 = true ∧ fdq cX3_all 10 (.istore_n 3) 1 = true ∧ fdq cX3_all 11 (.iload_n 3) 1 = true ∧ fdq cX3_all 12 (.aload_n 2) 1 = true ∧ fdq cX3_all 13 (.arraylength) 1 = true ∧ fdq cX3_all 14 (.if_icmp .ge 18) 3 = true ∧ fdq cX3_all 17 (.aload_n 2) 1 = true ∧ fdq cX3_all 18 (.iload_n 3) 1 = true ∧ fdq cX3_all 19 (.aload_n 0) 1 = true ∧ fdq cX3_all 20 (.iload_n 1) 1 = true ∧ fdq cX3_all 21 (.iload_n 3) 1 = true ∧ fdq cX3_all 22 (.invokevirtual 36) 3 = true ∧ fdq cX3_all 25 (.iastore) 1 = true := by decide +kernel
theorem dX3_all_4 : decode cX3_all 4 = .ok (.iload_n 1, 1) := fdf dAb_120.1
theorem dX3_all_5 : decode cX3_all 5 = .ok (.iaload, 1) := fdf dAb_120.2.1
theorem dX3_all_8 : decode cX3_all 8 = .ok (.astore_n 2, 1) := fdf dAb_120.2.2.1
theorem dX3_all_9 : decode cX3_all 9 = .ok (.iconst 0, 1) := fdf dAb_120.2.2.2.1
theorem dX3_all_10 : decode cX3_all 10 = .ok (.istore_n 3, 1) := fdf dAb_120.2.2.2.2.1
theorem dX3_all_11 : decode cX3_all 11 = .ok (.iload_n 3, 1) := fdf dAb_120.2.2.2.2.2.1
theorem dX3_all_12 : decode cX3_all 12 = .ok (.aload_n 2, 1) := fdf dAb_120.2.2.2.2.2.2.1
theorem dX3_all_13 : decode cX3_all 13 = .ok (.arraylength, 1) := fdf dAb_120.2.2.2.2.2.2.2.1
theorem dX3_all_14 : decode cX3_all 14 = .ok (.if_icmp .ge 18, 3) := fdf dAb_120.2.2.2.2.2.2.2.2.1
theorem dX3_all_17 : decode cX3_all 17 = .ok (.aload_n 2, 1) := fdf dAb_120.2.2.2.2.2.2.2.2.2.1
theorem dX3_all_18 : decode cX3_all 18 = .ok (.iload_n 3, 1) := fdf dAb_120.2.2.2.2.2.2.2.2.2.2.1
theorem dX3_all_19 : decode cX3_all 19 = .ok (.aload_n 0, 1) := fdf dAb_120.2.2.2.2.2.2.2.2.2.2.2.1
theorem dX3_all_20 : decode cX3_all 20 = .ok (.iload_n 1, 1) := fdf dAb_120.2.2.2.2.2.2.2.2.2.2.2.2.1
theorem dX3_all_21 : decode cX3_all 21 = .ok (.iload_n 3, 1) := fdf dAb_120.2.2.2.2.2.2.2.2.2.2.2.2.2.1
theorem dX3_all_22 : decode cX3_all 22 = .ok (.invokevirtual 36, 3) := fdf dAb_120.2.2.2.2.2.2.2.2.2.2.2.2.2.2.1
theorem dX3_all_25 : decode cX3_all 25 = .ok (.iastore, 1) := fdf dAb_120.2.2.2.2.2.2.2.2.2.2.2.2.2.2.2
theorem dAb_121 : fdq cX3_all 26 (.iinc 3 1) 3 = true ∧ fdq cX3_all 29 (.goto (-18)) 3 = true ∧ fdq cX3_all 32 (.aload_n 2) 1 = true ∧ fdq cX3_all 33 (.areturn) 1 = true ∧ fdq cX3_writeAll 0 (.iconst 0) 1 = true ∧ fdq cX3_writeAll 1 (.istore_n 3) 1 = true ∧ fdq cX3_writeAll 2 (.iload_n 3) 1 = true ∧ fdq cX3_writeAll 3 (.aload_n 2) 1 = true ∧ fdq cX3_writeAll 4 (.arraylength) 1 = true ∧ fdq cX3_writeAll 5 (.if_icmp .ge 18) 3 = true ∧ fdq cX3_writeAll 8 (.aload_n 0) 1 = true ∧ fdq cX3_writeAll 9 (.iload_n 1) 1 = true ∧ fdq cX3_writeAll 10 (.iload_n 3) 1 = true ∧ fdq cX3_writeAll 11 (.aload_n 2) 1 = true ∧ fdq cX3_writeAll 12 (.iload_n 3) 1 = true ∧ fdq cX3_writeAll 13 (.iaload) 1 = true := by decide +kernel
theorem dX3_all_26 : decode cX3_all 26 = .ok (.iinc 3 1, 3) := fdf dAb_121.1
theorem dX3_all_29 : decode cX3_all 29 = .ok (.goto (-18), 3) := fdf dAb_121.2.1
theorem dX3_all_32 : decode cX3_all 32 = .ok (.aload_n 2, 1) := fdf dAb_121.2.2.1
theorem dX3_all_33 : decode cX3_all 33 = .ok (.areturn, 1) := fdf dAb_121.2.2.2.1
theorem dX3_writeAll_0 : decode cX3_writeAll 0 = .ok (.iconst 0, 1) := fdf dAb_121.2.2.2.2.1
theorem dX3_writeAll_1 : decode cX3_writeAll 1 = .ok (.istore_n 3, 1) := fdf dAb_121.2.2.2.2.2.1
theorem dX3_writeAll_2 : decode cX3_writeAll 2 = .ok (.iload_n 3, 1) := fdf dAb_121.2.2.2.2.2.2.1
theorem dX3_writeAll_3 : decode cX3_writeAll 3 = .ok (.aload_n 2, 1) := fdf dAb_121.2.2.2.2.2.2.2.1
theorem dX3_writeAll_4 : decode cX3_writeAll 4 = .ok (.arraylength, 1) := fdf dAb_121.2.2.2.2.2.2.2.2.1
theorem dX3_writeAll_5 : decode cX3_writeAll 5 = .ok (.if_icmp .ge 18, 3) := fdf dAb_121.2.2.2.2.2.2.2.2.2.1
theorem dX3_writeAll_8 : decode cX3_writeAll 8 = .ok (.aload_n 0, 1) := fdf dAb_121.2.2.2.2.2.2.2.2.2.2.1
theorem dX3_writeAll_9 : decode cX3_writeAll 9 = .ok (.iload_n 1, 1) := fdf dAb_121.2.2.2.2.2.2.2.2.2.2.2.1
theorem dX3_writeAll_10 : decode cX3_writeAll 10 = .ok (.iload_n 3, 1) := fdf dAb_121.2.2.2.2.2.2.2.2.2.2.2.2.1
theorem dX3_writeAll_11 : decode cX3_writeAll 11 = .ok (.aload_n 2, 1) := fdf dAb_121.2.2.2.2.2.2.2.2.2.2.2.2.2.1
theorem dX3_writeAll_12 : decode cX3_writeAll 12 = .ok (.iload_n 3, 1) := fdf dAb_121.2.2.2.2.2.2.2.2.2.2.2.2.2.2.1
theorem dX3_writeAll_13 : decode cX3_writeAll 13 = .ok (.iaload, 1) := fdf dAb_121.2.2.2.2.2.2.2.2.2.2.2.2.2.2.2
theorem dAb_122 : fdq cX3_writeAll 14 (.invokevirtual 40) 3 = true ∧ fdq cX3_writeAll 17 (.iinc 3 1) 3 = true ∧ fdq cX3_writeAll 20 (.goto (-18)) 3 = true ∧ fdq cX3_writeAll 23 (.return_) 1 = true ∧ fdq cX3_refused 0 (.aload_n 0) 1 = true ∧ fdq cX3_refused 1 (.dup) 1 = true ∧ fdq cX3_refused 2 (.getfield 44) 3 = true ∧ fdq cX3_refused 5 (.iconst 1) 1 = true ∧ fdq cX3_refused 6 (.iadd) 1 = true ∧ fdq cX3_refused 7 (.putfield 44) 3 = true ∧ fdq cX3_refused 10 (.bipush (-9)) 2 = true ∧ fdq cX3_refused 12 (.ireturn) 1 = true ∧ fdq cX3_bounded 0 (.bipush (-99)) 2 = true ∧ fdq cX3_bounded 2 (.bipush 99) 2 = true ∧ fdq cX3_bounded 4 (.iload_n 0) 1 = true ∧ fdq cX3_bounded 5 (.invokestatic 47) 3 = true := by decide +kernel
theorem dX3_writeAll_14 : decode cX3_writeAll 14 = .ok (.invokevirtual 40, 3) := fdf dAb_122.1
theorem dX3_writeAll_17 : decode cX3_writeAll 17 = .ok (.iinc 3 1, 3) := fdf dAb_122.2.1
theorem dX3_writeAll_20 : decode cX3_writeAll 20 = .ok (.goto (-18), 3) := fdf dAb_122.2.2.1
theorem dX3_writeAll_23 : decode cX3_writeAll 23 = .ok (.return_, 1) := fdf dAb_122.2.2.2.1
theorem dX3_refused_0 : decode cX3_refused 0 = .ok (.aload_n 0, 1) := fdf dAb_122.2.2.2.2.1
theorem dX3_refused_1 : decode cX3_refused 1 = .ok (.dup, 1) := fdf dAb_122.2.2.2.2.2.1
theorem dX3_refused_2 : decode cX3_refused 2 = .ok (.getfield 44, 3) := fdf dAb_122.2.2.2.2.2.2.1
theorem dX3_refused_5 : decode cX3_refused 5 = .ok (.iconst 1, 1) := fdf dAb_122.2.2.2.2.2.2.2.1
theorem dX3_refused_6 : decode cX3_refused 6 = .ok (.iadd, 1) := fdf dAb_122.2.2.2.2.2.2.2.2.1
theorem dX3_refused_7 : decode cX3_refused 7 = .ok (.putfield 44, 3) := fdf dAb_122.2.2.2.2.2.2.2.2.2.1
theorem dX3_refused_10 : decode cX3_refused 10 = .ok (.bipush (-9), 2) := fdf dAb_122.2.2.2.2.2.2.2.2.2.2.1
theorem dX3_refused_12 : decode cX3_refused 12 = .ok (.ireturn, 1) := fdf dAb_122.2.2.2.2.2.2.2.2.2.2.2.1
theorem dX3_bounded_0 : decode cX3_bounded 0 = .ok (.bipush (-99), 2) := fdf dAb_122.2.2.2.2.2.2.2.2.2.2.2.2.1
theorem dX3_bounded_2 : decode cX3_bounded 2 = .ok (.bipush 99, 2) := fdf dAb_122.2.2.2.2.2.2.2.2.2.2.2.2.2.1
theorem dX3_bounded_4 : decode cX3_bounded 4 = .ok (.iload_n 0, 1) := fdf dAb_122.2.2.2.2.2.2.2.2.2.2.2.2.2.2.1
theorem dX3_bounded_5 : decode cX3_bounded 5 = .ok (.invokestatic 47, 3) := fdf dAb_122.2.2.2.2.2.2.2.2.2.2.2.2.2.2.2
theorem dAb_123 : fdq cX3_bounded 8 (.invokestatic 52) 3 = true ∧ fdq cX3_bounded 11 (.ireturn) 1 = true ∧ fdq cX3_ruled 0 (.iload_n 1) 1 = true ∧ fdq cX3_ruled 1 (.sipush (-1000)) 3 = true ∧ fdq cX3_ruled 4 (.if_icmp .ne 7) 3 = true ∧ fdq cX3_ruled 7 (.iconst 0) 1 = true ∧ fdq cX3_ruled 8 (.goto 4) 3 = true ∧ fdq cX3_ruled 11 (.iload_n 1) 1 = true ∧ fdq cX3_ruled 12 (.istore_n 3) 1 = true ∧ fdq cX3_ruled 13 (.iload_n 0) 1 = true ∧ fdq cX3_ruled 14 (.ifCond .ne 10) 3 = true ∧ fdq cX3_ruled 17 (.iload_n 3) 1 = true ∧ fdq cX3_ruled 18 (.iload_n 2) 1 = true ∧ fdq cX3_ruled 19 (.iadd) 1 = true ∧ fdq cX3_ruled 20 (.invokestatic 55) 3 = true ∧ fdq cX3_ruled 23 (.ireturn) 1 = true := by decide +kernel
theorem dX3_bounded_8 : decode cX3_bounded 8 = .ok (.invokestatic 52, 3) := fdf dAb_123.1
theorem dX3_bounded_11 : decode cX3_bounded 11 = .ok (.ireturn, 1) := fdf dAb_123.2.1
theorem dX3_ruled_0 : decode cX3_ruled 0 = .ok (.iload_n 1, 1) := fdf dAb_123.2.2.1
theorem dX3_ruled_1 : decode cX3_ruled 1 = .ok (.sipush (-1000), 3) := fdf dAb_123.2.2.2.1
theorem dX3_ruled_4 : decode cX3_ruled 4 = .ok (.if_icmp .ne 7, 3) := fdf dAb_123.2.2.2.2.1
theorem dX3_ruled_7 : decode cX3_ruled 7 = .ok (.iconst 0, 1) := fdf dAb_123.2.2.2.2.2.1
theorem dX3_ruled_8 : decode cX3_ruled 8 = .ok (.goto 4, 3) := fdf dAb_123.2.2.2.2.2.2.1
theorem dX3_ruled_11 : decode cX3_ruled 11 = .ok (.iload_n 1, 1) := fdf dAb_123.2.2.2.2.2.2.2.1
theorem dX3_ruled_12 : decode cX3_ruled 12 = .ok (.istore_n 3, 1) := fdf dAb_123.2.2.2.2.2.2.2.2.1
theorem dX3_ruled_13 : decode cX3_ruled 13 = .ok (.iload_n 0, 1) := fdf dAb_123.2.2.2.2.2.2.2.2.2.1
theorem dX3_ruled_14 : decode cX3_ruled 14 = .ok (.ifCond .ne 10, 3) := fdf dAb_123.2.2.2.2.2.2.2.2.2.2.1
theorem dX3_ruled_17 : decode cX3_ruled 17 = .ok (.iload_n 3, 1) := fdf dAb_123.2.2.2.2.2.2.2.2.2.2.2.1
theorem dX3_ruled_18 : decode cX3_ruled 18 = .ok (.iload_n 2, 1) := fdf dAb_123.2.2.2.2.2.2.2.2.2.2.2.2.1
theorem dX3_ruled_19 : decode cX3_ruled 19 = .ok (.iadd, 1) := fdf dAb_123.2.2.2.2.2.2.2.2.2.2.2.2.2.1
theorem dX3_ruled_20 : decode cX3_ruled 20 = .ok (.invokestatic 55, 3) := fdf dAb_123.2.2.2.2.2.2.2.2.2.2.2.2.2.2.1
theorem dX3_ruled_23 : decode cX3_ruled 23 = .ok (.ireturn, 1) := fdf dAb_123.2.2.2.2.2.2.2.2.2.2.2.2.2.2.2
theorem dAb_124 : fdq cX3_ruled 24 (.iload_n 0) 1 = true ∧ fdq cX3_ruled 25 (.iconst 1) 1 = true ∧ fdq cX3_ruled 26 (.if_icmp .ne 9) 3 = true ∧ fdq cX3_ruled 29 (.iload_n 3) 1 = true ∧ fdq cX3_ruled 30 (.iload_n 2) 1 = true ∧ fdq cX3_ruled 31 (.invokestatic 52) 3 = true ∧ fdq cX3_ruled 34 (.ireturn) 1 = true ∧ fdq cX3_ruled 35 (.iload_n 0) 1 = true ∧ fdq cX3_ruled 36 (.iconst 2) 1 = true ∧ fdq cX3_ruled 37 (.if_icmp .ne 10) 3 = true ∧ fdq cX3_ruled 40 (.iload_n 3) 1 = true ∧ fdq cX3_ruled 41 (.iload_n 2) 1 = true ∧ fdq cX3_ruled 42 (.imul) 1 = true ∧ fdq cX3_ruled 43 (.invokestatic 55) 3 = true ∧ fdq cX3_ruled 46 (.ireturn) 1 = true ∧ fdq cX3_ruled 47 (.iload_n 3) 1 = true := by decide +kernel
theorem dX3_ruled_24 : decode cX3_ruled 24 = .ok (.iload_n 0, 1) := fdf dAb_124.1
theorem dX3_ruled_25 : decode cX3_ruled 25 = .ok (.iconst 1, 1) := fdf dAb_124.2.1
theorem dX3_ruled_26 : decode cX3_ruled 26 = .ok (.if_icmp .ne 9, 3) := fdf dAb_124.2.2.1
theorem dX3_ruled_29 : decode cX3_ruled 29 = .ok (.iload_n 3, 1) := fdf dAb_124.2.2.2.1
theorem dX3_ruled_30 : decode cX3_ruled 30 = .ok (.iload_n 2, 1) := fdf dAb_124.2.2.2.2.1
theorem dX3_ruled_31 : decode cX3_ruled 31 = .ok (.invokestatic 52, 3) := fdf dAb_124.2.2.2.2.2.1
theorem dX3_ruled_34 : decode cX3_ruled 34 = .ok (.ireturn, 1) := fdf dAb_124.2.2.2.2.2.2.1
theorem dX3_ruled_35 : decode cX3_ruled 35 = .ok (.iload_n 0, 1) := fdf dAb_124.2.2.2.2.2.2.2.1
theorem dX3_ruled_36 : decode cX3_ruled 36 = .ok (.iconst 2, 1) := fdf dAb_124.2.2.2.2.2.2.2.2.1
theorem dX3_ruled_37 : decode cX3_ruled 37 = .ok (.if_icmp .ne 10, 3) := fdf dAb_124.2.2.2.2.2.2.2.2.2.1
theorem dX3_ruled_40 : decode cX3_ruled 40 = .ok (.iload_n 3, 1) := fdf dAb_124.2.2.2.2.2.2.2.2.2.2.1
theorem dX3_ruled_41 : decode cX3_ruled 41 = .ok (.iload_n 2, 1) := fdf dAb_124.2.2.2.2.2.2.2.2.2.2.2.1
theorem dX3_ruled_42 : decode cX3_ruled 42 = .ok (.imul, 1) := fdf dAb_124.2.2.2.2.2.2.2.2.2.2.2.2.1
theorem dX3_ruled_43 : decode cX3_ruled 43 = .ok (.invokestatic 55, 3) := fdf dAb_124.2.2.2.2.2.2.2.2.2.2.2.2.2.1
theorem dX3_ruled_46 : decode cX3_ruled 46 = .ok (.ireturn, 1) := fdf dAb_124.2.2.2.2.2.2.2.2.2.2.2.2.2.2.1
theorem dX3_ruled_47 : decode cX3_ruled 47 = .ok (.iload_n 3, 1) := fdf dAb_124.2.2.2.2.2.2.2.2.2.2.2.2.2.2.2
theorem dAb_125 : fdq cX3_ruled 48 (.iload_n 2) 1 = true ∧ fdq cX3_ruled 49 (.if_icmp .ne 9) 3 = true ∧ fdq cX3_ruled 52 (.sipush (-1000)) 3 = true ∧ fdq cX3_ruled 55 (.goto 4) 3 = true ∧ fdq cX3_ruled 58 (.iload_n 3) 1 = true ∧ fdq cX3_ruled 59 (.ireturn) 1 = true ∧ fdq cX3_tested 0 (.iload_n 0) 1 = true ∧ fdq cX3_tested 1 (.ifCond .ne 18) 3 = true ∧ fdq cX3_tested 4 (.iload_n 1) 1 = true ∧ fdq cX3_tested 5 (.sipush (-1000)) 3 = true ∧ fdq cX3_tested 8 (.if_icmp .ne 7) 3 = true ∧ fdq cX3_tested 11 (.iconst 1) 1 = true ∧ fdq cX3_tested 12 (.goto 42) 3 = true ∧ fdq cX3_tested 15 (.iconst 0) 1 = true ∧ fdq cX3_tested 16 (.goto 38) 3 = true ∧ fdq cX3_tested 19 (.iload_n 0) 1 = true := by decide +kernel
theorem dX3_ruled_48 : decode cX3_ruled 48 = .ok (.iload_n 2, 1) := fdf dAb_125.1
theorem dX3_ruled_49 : decode cX3_ruled 49 = .ok (.if_icmp .ne 9, 3) := fdf dAb_125.2.1
theorem dX3_ruled_52 : decode cX3_ruled 52 = .ok (.sipush (-1000), 3) := fdf dAb_125.2.2.1
theorem dX3_ruled_55 : decode cX3_ruled 55 = .ok (.goto 4, 3) := fdf dAb_125.2.2.2.1
theorem dX3_ruled_58 : decode cX3_ruled 58 = .ok (.iload_n 3, 1) := fdf dAb_125.2.2.2.2.1
theorem dX3_ruled_59 : decode cX3_ruled 59 = .ok (.ireturn, 1) := fdf dAb_125.2.2.2.2.2.1
theorem dX3_tested_0 : decode cX3_tested 0 = .ok (.iload_n 0, 1) := fdf dAb_125.2.2.2.2.2.2.1
theorem dX3_tested_1 : decode cX3_tested 1 = .ok (.ifCond .ne 18, 3) := fdf dAb_125.2.2.2.2.2.2.2.1
theorem dX3_tested_4 : decode cX3_tested 4 = .ok (.iload_n 1, 1) := fdf dAb_125.2.2.2.2.2.2.2.2.1
theorem dX3_tested_5 : decode cX3_tested 5 = .ok (.sipush (-1000), 3) := fdf dAb_125.2.2.2.2.2.2.2.2.2.1
theorem dX3_tested_8 : decode cX3_tested 8 = .ok (.if_icmp .ne 7, 3) := fdf dAb_125.2.2.2.2.2.2.2.2.2.2.1
theorem dX3_tested_11 : decode cX3_tested 11 = .ok (.iconst 1, 1) := fdf dAb_125.2.2.2.2.2.2.2.2.2.2.2.1
theorem dX3_tested_12 : decode cX3_tested 12 = .ok (.goto 42, 3) := fdf dAb_125.2.2.2.2.2.2.2.2.2.2.2.2.1
theorem dX3_tested_15 : decode cX3_tested 15 = .ok (.iconst 0, 1) := fdf dAb_125.2.2.2.2.2.2.2.2.2.2.2.2.2.1
theorem dX3_tested_16 : decode cX3_tested 16 = .ok (.goto 38, 3) := fdf dAb_125.2.2.2.2.2.2.2.2.2.2.2.2.2.2.1
theorem dX3_tested_19 : decode cX3_tested 19 = .ok (.iload_n 0, 1) := fdf dAb_125.2.2.2.2.2.2.2.2.2.2.2.2.2.2.2
theorem dAb_126 : fdq cX3_tested 20 (.iconst 1) 1 = true ∧ fdq cX3_tested 21 (.if_icmp .ne 16) 3 = true ∧ fdq cX3_tested 24 (.iload_n 1) 1 = true ∧ fdq cX3_tested 25 (.iload_n 2) 1 = true ∧ fdq cX3_tested 26 (.if_icmp .ne 7) 3 = true ∧ fdq cX3_tested 29 (.iconst 1) 1 = true ∧ fdq cX3_tested 30 (.goto 24) 3 = true ∧ fdq cX3_tested 33 (.iconst 0) 1 = true ∧ fdq cX3_tested 34 (.goto 20) 3 = true ∧ fdq cX3_tested 37 (.iload_n 1) 1 = true ∧ fdq cX3_tested 38 (.sipush (-1000)) 3 = true ∧ fdq cX3_tested 41 (.if_icmp .eq 12) 3 = true ∧ fdq cX3_tested 44 (.iload_n 1) 1 = true ∧ fdq cX3_tested 45 (.iload_n 2) 1 = true ∧ fdq cX3_tested 46 (.if_icmp .ge 7) 3 = true ∧ fdq cX3_tested 49 (.iconst 1) 1 = true := by decide +kernel
theorem dX3_tested_20 : decode cX3_tested 20 = .ok (.iconst 1, 1) := fdf dAb_126.1
theorem dX3_tested_21 : decode cX3_tested 21 = .ok (.if_icmp .ne 16, 3) := fdf dAb_126.2.1
theorem dX3_tested_24 : decode cX3_tested 24 = .ok (.iload_n 1, 1) := fdf dAb_126.2.2.1
theorem dX3_tested_25 : decode cX3_tested 25 = .ok (.iload_n 2, 1) := fdf dAb_126.2.2.2.1
theorem dX3_tested_26 : decode cX3_tested 26 = .ok (.if_icmp .ne 7, 3) := fdf dAb_126.2.2.2.2.1
theorem dX3_tested_29 : decode cX3_tested 29 = .ok (.iconst 1, 1) := fdf dAb_126.2.2.2.2.2.1
theorem dX3_tested_30 : decode cX3_tested 30 = .ok (.goto 24, 3) := fdf dAb_126.2.2.2.2.2.2.1
theorem dX3_tested_33 : decode cX3_tested 33 = .ok (.iconst 0, 1) := fdf dAb_126.2.2.2.2.2.2.2.1
theorem dX3_tested_34 : decode cX3_tested 34 = .ok (.goto 20, 3) := fdf dAb_126.2.2.2.2.2.2.2.2.1
theorem dX3_tested_37 : decode cX3_tested 37 = .ok (.iload_n 1, 1) := fdf dAb_126.2.2.2.2.2.2.2.2.2.1
theorem dX3_tested_38 : decode cX3_tested 38 = .ok (.sipush (-1000), 3) := fdf dAb_126.2.2.2.2.2.2.2.2.2.2.1
theorem dX3_tested_41 : decode cX3_tested 41 = .ok (.if_icmp .eq 12, 3) := fdf dAb_126.2.2.2.2.2.2.2.2.2.2.2.1
theorem dX3_tested_44 : decode cX3_tested 44 = .ok (.iload_n 1, 1) := fdf dAb_126.2.2.2.2.2.2.2.2.2.2.2.2.1
theorem dX3_tested_45 : decode cX3_tested 45 = .ok (.iload_n 2, 1) := fdf dAb_126.2.2.2.2.2.2.2.2.2.2.2.2.2.1
theorem dX3_tested_46 : decode cX3_tested 46 = .ok (.if_icmp .ge 7, 3) := fdf dAb_126.2.2.2.2.2.2.2.2.2.2.2.2.2.2.1
theorem dX3_tested_49 : decode cX3_tested 49 = .ok (.iconst 1, 1) := fdf dAb_126.2.2.2.2.2.2.2.2.2.2.2.2.2.2.2
theorem dAb_127 : fdq cX3_tested 50 (.goto 4) 3 = true ∧ fdq cX3_tested 53 (.iconst 0) 1 = true ∧ fdq cX3_tested 54 (.ireturn) 1 = true ∧ fdq cX3_placeOf 0 (.iconst 0) 1 = true ∧ fdq cX3_placeOf 1 (.istore_n 2) 1 = true ∧ fdq cX3_placeOf 2 (.iload_n 2) 1 = true ∧ fdq cX3_placeOf 3 (.aload_n 0) 1 = true ∧ fdq cX3_placeOf 4 (.arraylength) 1 = true ∧ fdq cX3_placeOf 5 (.if_icmp .ge 18) 3 = true ∧ fdq cX3_placeOf 8 (.aload_n 0) 1 = true ∧ fdq cX3_placeOf 9 (.iload_n 2) 1 = true ∧ fdq cX3_placeOf 10 (.iaload) 1 = true ∧ fdq cX3_placeOf 11 (.iload_n 1) 1 = true ∧ fdq cX3_placeOf 12 (.if_icmp .ne 5) 3 = true ∧ fdq cX3_placeOf 15 (.iload_n 2) 1 = true ∧ fdq cX3_placeOf 16 (.ireturn) 1 = true := by decide +kernel
theorem dX3_tested_50 : decode cX3_tested 50 = .ok (.goto 4, 3) := fdf dAb_127.1
theorem dX3_tested_53 : decode cX3_tested 53 = .ok (.iconst 0, 1) := fdf dAb_127.2.1
theorem dX3_tested_54 : decode cX3_tested 54 = .ok (.ireturn, 1) := fdf dAb_127.2.2.1
theorem dX3_placeOf_0 : decode cX3_placeOf 0 = .ok (.iconst 0, 1) := fdf dAb_127.2.2.2.1
theorem dX3_placeOf_1 : decode cX3_placeOf 1 = .ok (.istore_n 2, 1) := fdf dAb_127.2.2.2.2.1
theorem dX3_placeOf_2 : decode cX3_placeOf 2 = .ok (.iload_n 2, 1) := fdf dAb_127.2.2.2.2.2.1
theorem dX3_placeOf_3 : decode cX3_placeOf 3 = .ok (.aload_n 0, 1) := fdf dAb_127.2.2.2.2.2.2.1
theorem dX3_placeOf_4 : decode cX3_placeOf 4 = .ok (.arraylength, 1) := fdf dAb_127.2.2.2.2.2.2.2.1
theorem dX3_placeOf_5 : decode cX3_placeOf 5 = .ok (.if_icmp .ge 18, 3) := fdf dAb_127.2.2.2.2.2.2.2.2.1
theorem dX3_placeOf_8 : decode cX3_placeOf 8 = .ok (.aload_n 0, 1) := fdf dAb_127.2.2.2.2.2.2.2.2.2.1
theorem dX3_placeOf_9 : decode cX3_placeOf 9 = .ok (.iload_n 2, 1) := fdf dAb_127.2.2.2.2.2.2.2.2.2.2.1
theorem dX3_placeOf_10 : decode cX3_placeOf 10 = .ok (.iaload, 1) := fdf dAb_127.2.2.2.2.2.2.2.2.2.2.2.1
theorem dX3_placeOf_11 : decode cX3_placeOf 11 = .ok (.iload_n 1, 1) := fdf dAb_127.2.2.2.2.2.2.2.2.2.2.2.2.1
theorem dX3_placeOf_12 : decode cX3_placeOf 12 = .ok (.if_icmp .ne 5, 3) := fdf dAb_127.2.2.2.2.2.2.2.2.2.2.2.2.2.1
theorem dX3_placeOf_15 : decode cX3_placeOf 15 = .ok (.iload_n 2, 1) := fdf dAb_127.2.2.2.2.2.2.2.2.2.2.2.2.2.2.1
theorem dX3_placeOf_16 : decode cX3_placeOf 16 = .ok (.ireturn, 1) := fdf dAb_127.2.2.2.2.2.2.2.2.2.2.2.2.2.2.2
theorem dAb_128 : fdq cX3_placeOf 17 (.iinc 2 1) 3 = true ∧ fdq cX3_placeOf 20 (.goto (-18)) 3 = true ∧ fdq cX3_placeOf 23 (.iconst (-1)) 1 = true ∧ fdq cX3_placeOf 24 (.ireturn) 1 = true ∧ fdq cX3_oftenIn 0 (.iconst 0) 1 = true ∧ fdq cX3_oftenIn 1 (.istore_n 2) 1 = true ∧ fdq cX3_oftenIn 2 (.aload_n 0) 1 = true ∧ fdq cX3_oftenIn 3 (.astore_n 3) 1 = true ∧ fdq cX3_oftenIn 4 (.aload_n 3) 1 = true ∧ fdq cX3_oftenIn 5 (.arraylength) 1 = true ∧ fdq cX3_oftenIn 6 (.istore 4) 2 = true ∧ fdq cX3_oftenIn 8 (.iconst 0) 1 = true ∧ fdq cX3_oftenIn 9 (.istore 5) 2 = true ∧ fdq cX3_oftenIn 11 (.iload 5) 2 = true ∧ fdq cX3_oftenIn 13 (.iload 4) 2 = true ∧ fdq cX3_oftenIn 15 (.if_icmp .ge 32) 3 = true := by decide +kernel
theorem dX3_placeOf_17 : decode cX3_placeOf 17 = .ok (.iinc 2 1, 3) := fdf dAb_128.1
theorem dX3_placeOf_20 : decode cX3_placeOf 20 = .ok (.goto (-18), 3) := fdf dAb_128.2.1
theorem dX3_placeOf_23 : decode cX3_placeOf 23 = .ok (.iconst (-1), 1) := fdf dAb_128.2.2.1
theorem dX3_placeOf_24 : decode cX3_placeOf 24 = .ok (.ireturn, 1) := fdf dAb_128.2.2.2.1
theorem dX3_oftenIn_0 : decode cX3_oftenIn 0 = .ok (.iconst 0, 1) := fdf dAb_128.2.2.2.2.1
theorem dX3_oftenIn_1 : decode cX3_oftenIn 1 = .ok (.istore_n 2, 1) := fdf dAb_128.2.2.2.2.2.1
theorem dX3_oftenIn_2 : decode cX3_oftenIn 2 = .ok (.aload_n 0, 1) := fdf dAb_128.2.2.2.2.2.2.1
theorem dX3_oftenIn_3 : decode cX3_oftenIn 3 = .ok (.astore_n 3, 1) := fdf dAb_128.2.2.2.2.2.2.2.1
theorem dX3_oftenIn_4 : decode cX3_oftenIn 4 = .ok (.aload_n 3, 1) := fdf dAb_128.2.2.2.2.2.2.2.2.1
theorem dX3_oftenIn_5 : decode cX3_oftenIn 5 = .ok (.arraylength, 1) := fdf dAb_128.2.2.2.2.2.2.2.2.2.1
theorem dX3_oftenIn_6 : decode cX3_oftenIn 6 = .ok (.istore 4, 2) := fdf dAb_128.2.2.2.2.2.2.2.2.2.2.1
theorem dX3_oftenIn_8 : decode cX3_oftenIn 8 = .ok (.iconst 0, 1) := fdf dAb_128.2.2.2.2.2.2.2.2.2.2.2.1
theorem dX3_oftenIn_9 : decode cX3_oftenIn 9 = .ok (.istore 5, 2) := fdf dAb_128.2.2.2.2.2.2.2.2.2.2.2.2.1
theorem dX3_oftenIn_11 : decode cX3_oftenIn 11 = .ok (.iload 5, 2) := fdf dAb_128.2.2.2.2.2.2.2.2.2.2.2.2.2.1
theorem dX3_oftenIn_13 : decode cX3_oftenIn 13 = .ok (.iload 4, 2) := fdf dAb_128.2.2.2.2.2.2.2.2.2.2.2.2.2.2.1
theorem dX3_oftenIn_15 : decode cX3_oftenIn 15 = .ok (.if_icmp .ge 32, 3) := fdf dAb_128.2.2.2.2.2.2.2.2.2.2.2.2.2.2.2
theorem dAb_129 : fdq cX3_oftenIn 18 (.aload_n 3) 1 = true ∧ fdq cX3_oftenIn 19 (.iload 5) 2 = true ∧ fdq cX3_oftenIn 21 (.iaload) 1 = true ∧ fdq cX3_oftenIn 22 (.istore 6) 2 = true ∧ fdq cX3_oftenIn 24 (.iload_n 2) 1 = true ∧ fdq cX3_oftenIn 25 (.iload 6) 2 = true ∧ fdq cX3_oftenIn 27 (.iload_n 1) 1 = true ∧ fdq cX3_oftenIn 28 (.if_icmp .ne 7) 3 = true ∧ fdq cX3_oftenIn 31 (.iconst 1) 1 = true ∧ fdq cX3_oftenIn 32 (.goto 4) 3 = true ∧ fdq cX3_oftenIn 35 (.iconst 0) 1 = true ∧ fdq cX3_oftenIn 36 (.invokestatic 59) 3 = true ∧ fdq cX3_oftenIn 39 (.iadd) 1 = true ∧ fdq cX3_oftenIn 40 (.istore_n 2) 1 = true ∧ fdq cX3_oftenIn 41 (.iinc 5 1) 3 = true ∧ fdq cX3_oftenIn 44 (.goto (-33)) 3 = true := by decide +kernel
theorem dX3_oftenIn_18 : decode cX3_oftenIn 18 = .ok (.aload_n 3, 1) := fdf dAb_129.1
theorem dX3_oftenIn_19 : decode cX3_oftenIn 19 = .ok (.iload 5, 2) := fdf dAb_129.2.1
theorem dX3_oftenIn_21 : decode cX3_oftenIn 21 = .ok (.iaload, 1) := fdf dAb_129.2.2.1
theorem dX3_oftenIn_22 : decode cX3_oftenIn 22 = .ok (.istore 6, 2) := fdf dAb_129.2.2.2.1
theorem dX3_oftenIn_24 : decode cX3_oftenIn 24 = .ok (.iload_n 2, 1) := fdf dAb_129.2.2.2.2.1
theorem dX3_oftenIn_25 : decode cX3_oftenIn 25 = .ok (.iload 6, 2) := fdf dAb_129.2.2.2.2.2.1
theorem dX3_oftenIn_27 : decode cX3_oftenIn 27 = .ok (.iload_n 1, 1) := fdf dAb_129.2.2.2.2.2.2.1
theorem dX3_oftenIn_28 : decode cX3_oftenIn 28 = .ok (.if_icmp .ne 7, 3) := fdf dAb_129.2.2.2.2.2.2.2.1
theorem dX3_oftenIn_31 : decode cX3_oftenIn 31 = .ok (.iconst 1, 1) := fdf dAb_129.2.2.2.2.2.2.2.2.1
theorem dX3_oftenIn_32 : decode cX3_oftenIn 32 = .ok (.goto 4, 3) := fdf dAb_129.2.2.2.2.2.2.2.2.2.1
theorem dX3_oftenIn_35 : decode cX3_oftenIn 35 = .ok (.iconst 0, 1) := fdf dAb_129.2.2.2.2.2.2.2.2.2.2.1
theorem dX3_oftenIn_36 : decode cX3_oftenIn 36 = .ok (.invokestatic 59, 3) := fdf dAb_129.2.2.2.2.2.2.2.2.2.2.2.1
theorem dX3_oftenIn_39 : decode cX3_oftenIn 39 = .ok (.iadd, 1) := fdf dAb_129.2.2.2.2.2.2.2.2.2.2.2.2.1
theorem dX3_oftenIn_40 : decode cX3_oftenIn 40 = .ok (.istore_n 2, 1) := fdf dAb_129.2.2.2.2.2.2.2.2.2.2.2.2.2.1
theorem dX3_oftenIn_41 : decode cX3_oftenIn 41 = .ok (.iinc 5 1, 3) := fdf dAb_129.2.2.2.2.2.2.2.2.2.2.2.2.2.2.1
theorem dX3_oftenIn_44 : decode cX3_oftenIn 44 = .ok (.goto (-33), 3) := fdf dAb_129.2.2.2.2.2.2.2.2.2.2.2.2.2.2.2
theorem dAb_130 : fdq cX3_oftenIn 47 (.iload_n 2) 1 = true ∧ fdq cX3_oftenIn 48 (.ireturn) 1 = true ∧ fdq cX3_shown 0 (.iload_n 0) 1 = true ∧ fdq cX3_shown 1 (.sipush (-1000)) 3 = true ∧ fdq cX3_shown 4 (.if_icmp .ne 8) 3 = true ∧ fdq cX3_shown 7 (.ldc 63) 2 = true ∧ fdq cX3_shown 9 (.goto 22) 3 = true ∧ fdq cX3_shown 12 (.new 65) 3 = true ∧ fdq cX3_shown 15 (.dup) 1 = true ∧ fdq cX3_shown 16 (.invokespecial 67) 3 = true ∧ fdq cX3_shown 19 (.ldc 68) 2 = true ∧ fdq cX3_shown 21 (.invokevirtual 70) 3 = true ∧ fdq cX3_shown 24 (.iload_n 0) 1 = true ∧ fdq cX3_shown 25 (.invokevirtual 74) 3 = true ∧ fdq cX3_shown 28 (.invokevirtual 77) 3 = true ∧ fdq cX3_shown 31 (.areturn) 1 = true := by decide +kernel
theorem dX3_oftenIn_47 : decode cX3_oftenIn 47 = .ok (.iload_n 2, 1) := fdf dAb_130.1
theorem dX3_oftenIn_48 : decode cX3_oftenIn 48 = .ok (.ireturn, 1) := fdf dAb_130.2.1
theorem dX3_shown_0 : decode cX3_shown 0 = .ok (.iload_n 0, 1) := fdf dAb_130.2.2.1
theorem dX3_shown_1 : decode cX3_shown 1 = .ok (.sipush (-1000), 3) := fdf dAb_130.2.2.2.1
theorem dX3_shown_4 : decode cX3_shown 4 = .ok (.if_icmp .ne 8, 3) := fdf dAb_130.2.2.2.2.1
theorem dX3_shown_7 : decode cX3_shown 7 = .ok (.ldc 63, 2) := fdf dAb_130.2.2.2.2.2.1
theorem dX3_shown_9 : decode cX3_shown 9 = .ok (.goto 22, 3) := fdf dAb_130.2.2.2.2.2.2.1
theorem dX3_shown_12 : decode cX3_shown 12 = .ok (.new 65, 3) := fdf dAb_130.2.2.2.2.2.2.2.1
theorem dX3_shown_15 : decode cX3_shown 15 = .ok (.dup, 1) := fdf dAb_130.2.2.2.2.2.2.2.2.1
theorem dX3_shown_16 : decode cX3_shown 16 = .ok (.invokespecial 67, 3) := fdf dAb_130.2.2.2.2.2.2.2.2.2.1
theorem dX3_shown_19 : decode cX3_shown 19 = .ok (.ldc 68, 2) := fdf dAb_130.2.2.2.2.2.2.2.2.2.2.1
theorem dX3_shown_21 : decode cX3_shown 21 = .ok (.invokevirtual 70, 3) := fdf dAb_130.2.2.2.2.2.2.2.2.2.2.2.1
theorem dX3_shown_24 : decode cX3_shown 24 = .ok (.iload_n 0, 1) := fdf dAb_130.2.2.2.2.2.2.2.2.2.2.2.2.1
theorem dX3_shown_25 : decode cX3_shown 25 = .ok (.invokevirtual 74, 3) := fdf dAb_130.2.2.2.2.2.2.2.2.2.2.2.2.2.1
theorem dX3_shown_28 : decode cX3_shown 28 = .ok (.invokevirtual 77, 3) := fdf dAb_130.2.2.2.2.2.2.2.2.2.2.2.2.2.2.1
theorem dX3_shown_31 : decode cX3_shown 31 = .ok (.areturn, 1) := fdf dAb_130.2.2.2.2.2.2.2.2.2.2.2.2.2.2.2
theorem dAb_131 : fdq cX3_lay 0 (.aload_n 0) 1 = true ∧ fdq cX3_lay 1 (.iload_n 1) 1 = true ∧ fdq cX3_lay 2 (.iconst 0) 1 = true ∧ fdq cX3_lay 3 (.iconst 2) 1 = true ∧ fdq cX3_lay 4 (.invokestatic 24) 3 = true ∧ fdq cX3_lay 7 (.ifCond .ne 7) 3 = true ∧ fdq cX3_lay 10 (.iconst 1) 1 = true ∧ fdq cX3_lay 11 (.goto 4) 3 = true ∧ fdq cX3_lay 14 (.iconst 0) 1 = true ∧ fdq cX3_lay 15 (.iload_n 2) 1 = true ∧ fdq cX3_lay 16 (.iconst 0) 1 = true ∧ fdq cX3_lay 17 (.bipush 12) 2 = true ∧ fdq cX3_lay 19 (.invokestatic 24) 3 = true ∧ fdq cX3_lay 22 (.ifCond .ne 7) 3 = true ∧ fdq cX3_lay 25 (.iconst 1) 1 = true ∧ fdq cX3_lay 26 (.goto 4) 3 = true := by decide +kernel
theorem dX3_lay_0 : decode cX3_lay 0 = .ok (.aload_n 0, 1) := fdf dAb_131.1
theorem dX3_lay_1 : decode cX3_lay 1 = .ok (.iload_n 1, 1) := fdf dAb_131.2.1
theorem dX3_lay_2 : decode cX3_lay 2 = .ok (.iconst 0, 1) := fdf dAb_131.2.2.1
theorem dX3_lay_3 : decode cX3_lay 3 = .ok (.iconst 2, 1) := fdf dAb_131.2.2.2.1
theorem dX3_lay_4 : decode cX3_lay 4 = .ok (.invokestatic 24, 3) := fdf dAb_131.2.2.2.2.1
theorem dX3_lay_7 : decode cX3_lay 7 = .ok (.ifCond .ne 7, 3) := fdf dAb_131.2.2.2.2.2.1
theorem dX3_lay_10 : decode cX3_lay 10 = .ok (.iconst 1, 1) := fdf dAb_131.2.2.2.2.2.2.1
theorem dX3_lay_11 : decode cX3_lay 11 = .ok (.goto 4, 3) := fdf dAb_131.2.2.2.2.2.2.2.1
theorem dX3_lay_14 : decode cX3_lay 14 = .ok (.iconst 0, 1) := fdf dAb_131.2.2.2.2.2.2.2.2.1
theorem dX3_lay_15 : decode cX3_lay 15 = .ok (.iload_n 2, 1) := fdf dAb_131.2.2.2.2.2.2.2.2.2.1
theorem dX3_lay_16 : decode cX3_lay 16 = .ok (.iconst 0, 1) := fdf dAb_131.2.2.2.2.2.2.2.2.2.2.1
theorem dX3_lay_17 : decode cX3_lay 17 = .ok (.bipush 12, 2) := fdf dAb_131.2.2.2.2.2.2.2.2.2.2.2.1
theorem dX3_lay_19 : decode cX3_lay 19 = .ok (.invokestatic 24, 3) := fdf dAb_131.2.2.2.2.2.2.2.2.2.2.2.2.1
theorem dX3_lay_22 : decode cX3_lay 22 = .ok (.ifCond .ne 7, 3) := fdf dAb_131.2.2.2.2.2.2.2.2.2.2.2.2.2.1
theorem dX3_lay_25 : decode cX3_lay 25 = .ok (.iconst 1, 1) := fdf dAb_131.2.2.2.2.2.2.2.2.2.2.2.2.2.2.1
theorem dX3_lay_26 : decode cX3_lay 26 = .ok (.goto 4, 3) := fdf dAb_131.2.2.2.2.2.2.2.2.2.2.2.2.2.2.2
theorem dAb_132 : fdq cX3_lay 29 (.iconst 0) 1 = true ∧ fdq cX3_lay 30 (.invokevirtual 81) 3 = true ∧ fdq cX3_lay 33 (.ifCond .eq 5) 3 = true ∧ fdq cX3_lay 36 (.iconst 0) 1 = true ∧ fdq cX3_lay 37 (.ireturn) 1 = true ∧ fdq cX3_lay 38 (.aload_n 0) 1 = true ∧ fdq cX3_lay 39 (.getfield 9) 3 = true ∧ fdq cX3_lay 42 (.iload_n 1) 1 = true ∧ fdq cX3_lay 43 (.iload_n 2) 1 = true ∧ fdq cX3_lay 46 (.aastore) 1 = true ∧ fdq cX3_lay 47 (.aload_n 0) 1 = true ∧ fdq cX3_lay 48 (.getfield 21) 3 = true ∧ fdq cX3_lay 51 (.iload_n 1) 1 = true ∧ fdq cX3_lay 52 (.iload_n 2) 1 = true ∧ fdq cX3_lay 53 (.iastore) 1 = true ∧ fdq cX3_lay 54 (.iconst 0) 1 = true := by decide +kernel
theorem dX3_lay_29 : decode cX3_lay 29 = .ok (.iconst 0, 1) := fdf dAb_132.1
theorem dX3_lay_30 : decode cX3_lay 30 = .ok (.invokevirtual 81, 3) := fdf dAb_132.2.1
theorem dX3_lay_33 : decode cX3_lay 33 = .ok (.ifCond .eq 5, 3) := fdf dAb_132.2.2.1
theorem dX3_lay_36 : decode cX3_lay 36 = .ok (.iconst 0, 1) := fdf dAb_132.2.2.2.1
theorem dX3_lay_37 : decode cX3_lay 37 = .ok (.ireturn, 1) := fdf dAb_132.2.2.2.2.1
theorem dX3_lay_38 : decode cX3_lay 38 = .ok (.aload_n 0, 1) := fdf dAb_132.2.2.2.2.2.1
theorem dX3_lay_39 : decode cX3_lay 39 = .ok (.getfield 9, 3) := fdf dAb_132.2.2.2.2.2.2.1
theorem dX3_lay_42 : decode cX3_lay 42 = .ok (.iload_n 1, 1) := fdf dAb_132.2.2.2.2.2.2.2.1
theorem dX3_lay_43 : decode cX3_lay 43 = .ok (.iload_n 2, 1) := fdf dAb_132.2.2.2.2.2.2.2.2.1
theorem dX3_lay_46 : decode cX3_lay 46 = .ok (.aastore, 1) := fdf dAb_132.2.2.2.2.2.2.2.2.2.1
theorem dX3_lay_47 : decode cX3_lay 47 = .ok (.aload_n 0, 1) := fdf dAb_132.2.2.2.2.2.2.2.2.2.2.1
theorem dX3_lay_48 : decode cX3_lay 48 = .ok (.getfield 21, 3) := fdf dAb_132.2.2.2.2.2.2.2.2.2.2.2.1
theorem dX3_lay_51 : decode cX3_lay 51 = .ok (.iload_n 1, 1) := fdf dAb_132.2.2.2.2.2.2.2.2.2.2.2.2.1
theorem dX3_lay_52 : decode cX3_lay 52 = .ok (.iload_n 2, 1) := fdf dAb_132.2.2.2.2.2.2.2.2.2.2.2.2.2.1
theorem dX3_lay_53 : decode cX3_lay 53 = .ok (.iastore, 1) := fdf dAb_132.2.2.2.2.2.2.2.2.2.2.2.2.2.2.1
theorem dX3_lay_54 : decode cX3_lay 54 = .ok (.iconst 0, 1) := fdf dAb_132.2.2.2.2.2.2.2.2.2.2.2.2.2.2.2
theorem dAb_133 : fdq cX3_lay 55 (.istore_n 3) 1 = true ∧ fdq cX3_lay 56 (.iconst 3) 1 = true ∧ fdq cX3_lay 57 (.istore 4) 2 = true ∧ fdq cX3_lay 59 (.iload 4) 2 = true ∧ fdq cX3_lay 61 (.bipush 7) 2 = true ∧ fdq cX3_lay 63 (.if_icmp .ge 31) 3 = true ∧ fdq cX3_lay 66 (.aload_n 0) 1 = true ∧ fdq cX3_lay 67 (.getfield 15) 3 = true ∧ fdq cX3_lay 70 (.iload 4) 2 = true ∧ fdq cX3_lay 72 (.iaload) 1 = true ∧ fdq cX3_lay 73 (.iload_n 1) 1 = true ∧ fdq cX3_lay 74 (.if_icmp .ne 14) 3 = true ∧ fdq cX3_lay 77 (.aload_n 0) 1 = true ∧ fdq cX3_lay 78 (.getfield 15) 3 = true ∧ fdq cX3_lay 81 (.iload 4) 2 = true ∧ fdq cX3_lay 83 (.iconst (-1)) 1 = true := by decide +kernel
theorem dX3_lay_55 : decode cX3_lay 55 = .ok (.istore_n 3, 1) := fdf dAb_133.1
theorem dX3_lay_56 : decode cX3_lay 56 = .ok (.iconst 3, 1) := fdf dAb_133.2.1
theorem dX3_lay_57 : decode cX3_lay 57 = .ok (.istore 4, 2) := fdf dAb_133.2.2.1
theorem dX3_lay_59 : decode cX3_lay 59 = .ok (.iload 4, 2) := fdf dAb_133.2.2.2.1
theorem dX3_lay_61 : decode cX3_lay 61 = .ok (.bipush 7, 2) := fdf dAb_133.2.2.2.2.1
theorem dX3_lay_63 : decode cX3_lay 63 = .ok (.if_icmp .ge 31, 3) := fdf dAb_133.2.2.2.2.2.1
theorem dX3_lay_66 : decode cX3_lay 66 = .ok (.aload_n 0, 1) := fdf dAb_133.2.2.2.2.2.2.1
theorem dX3_lay_67 : decode cX3_lay 67 = .ok (.getfield 15, 3) := fdf dAb_133.2.2.2.2.2.2.2.1
theorem dX3_lay_70 : decode cX3_lay 70 = .ok (.iload 4, 2) := fdf dAb_133.2.2.2.2.2.2.2.2.1
theorem dX3_lay_72 : decode cX3_lay 72 = .ok (.iaload, 1) := fdf dAb_133.2.2.2.2.2.2.2.2.2.1
theorem dX3_lay_73 : decode cX3_lay 73 = .ok (.iload_n 1, 1) := fdf dAb_133.2.2.2.2.2.2.2.2.2.2.1
theorem dX3_lay_74 : decode cX3_lay 74 = .ok (.if_icmp .ne 14, 3) := fdf dAb_133.2.2.2.2.2.2.2.2.2.2.2.1
theorem dX3_lay_77 : decode cX3_lay 77 = .ok (.aload_n 0, 1) := fdf dAb_133.2.2.2.2.2.2.2.2.2.2.2.2.1
theorem dX3_lay_78 : decode cX3_lay 78 = .ok (.getfield 15, 3) := fdf dAb_133.2.2.2.2.2.2.2.2.2.2.2.2.2.1
theorem dX3_lay_81 : decode cX3_lay 81 = .ok (.iload 4, 2) := fdf dAb_133.2.2.2.2.2.2.2.2.2.2.2.2.2.2.1
theorem dX3_lay_83 : decode cX3_lay 83 = .ok (.iconst (-1), 1) := fdf dAb_133.2.2.2.2.2.2.2.2.2.2.2.2.2.2.2
theorem dAb_134 : fdq cX3_lay 84 (.iastore) 1 = true ∧ fdq cX3_lay 85 (.iinc 3 1) 3 = true ∧ fdq cX3_lay 88 (.iinc 4 1) 3 = true ∧ fdq cX3_lay 91 (.goto (-32)) 3 = true ∧ fdq cX3_lay 94 (.iload_n 3) 1 = true ∧ fdq cX3_lay 95 (.ireturn) 1 = true ∧ fdq cX3_put 0 (.aload_n 0) 1 = true ∧ fdq cX3_put 1 (.aload_n 0) 1 = true ∧ fdq cX3_put 2 (.iload_n 1) 1 = true ∧ fdq cX3_put 3 (.iload_n 2) 1 = true ∧ fdq cX3_put 4 (.invokevirtual 85) 3 = true ∧ fdq cX3_put 7 (.iload_n 3) 1 = true ∧ fdq cX3_put 8 (.invokestatic 89) 3 = true ∧ fdq cX3_put 11 (.invokevirtual 81) 3 = true ∧ fdq cX3_put 14 (.ifCond .eq 5) 3 = true ∧ fdq cX3_put 17 (.iconst 0) 1 = true := by decide +kernel
theorem dX3_lay_84 : decode cX3_lay 84 = .ok (.iastore, 1) := fdf dAb_134.1
theorem dX3_lay_85 : decode cX3_lay 85 = .ok (.iinc 3 1, 3) := fdf dAb_134.2.1
theorem dX3_lay_88 : decode cX3_lay 88 = .ok (.iinc 4 1, 3) := fdf dAb_134.2.2.1
theorem dX3_lay_91 : decode cX3_lay 91 = .ok (.goto (-32), 3) := fdf dAb_134.2.2.2.1
theorem dX3_lay_94 : decode cX3_lay 94 = .ok (.iload_n 3, 1) := fdf dAb_134.2.2.2.2.1
theorem dX3_lay_95 : decode cX3_lay 95 = .ok (.ireturn, 1) := fdf dAb_134.2.2.2.2.2.1
theorem dX3_put_0 : decode cX3_put 0 = .ok (.aload_n 0, 1) := fdf dAb_134.2.2.2.2.2.2.1
theorem dX3_put_1 : decode cX3_put 1 = .ok (.aload_n 0, 1) := fdf dAb_134.2.2.2.2.2.2.2.1
theorem dX3_put_2 : decode cX3_put 2 = .ok (.iload_n 1, 1) := fdf dAb_134.2.2.2.2.2.2.2.2.1
theorem dX3_put_3 : decode cX3_put 3 = .ok (.iload_n 2, 1) := fdf dAb_134.2.2.2.2.2.2.2.2.2.1
theorem dX3_put_4 : decode cX3_put 4 = .ok (.invokevirtual 85, 3) := fdf dAb_134.2.2.2.2.2.2.2.2.2.2.1
theorem dX3_put_7 : decode cX3_put 7 = .ok (.iload_n 3, 1) := fdf dAb_134.2.2.2.2.2.2.2.2.2.2.2.1
theorem dX3_put_8 : decode cX3_put 8 = .ok (.invokestatic 89, 3) := fdf dAb_134.2.2.2.2.2.2.2.2.2.2.2.2.1
theorem dX3_put_11 : decode cX3_put 11 = .ok (.invokevirtual 81, 3) := fdf dAb_134.2.2.2.2.2.2.2.2.2.2.2.2.2.1
theorem dX3_put_14 : decode cX3_put 14 = .ok (.ifCond .eq 5, 3) := fdf dAb_134.2.2.2.2.2.2.2.2.2.2.2.2.2.2.1
theorem dX3_put_17 : decode cX3_put 17 = .ok (.iconst 0, 1) := fdf dAb_134.2.2.2.2.2.2.2.2.2.2.2.2.2.2.2
theorem dAb_135 : fdq cX3_put 18 (.ireturn) 1 = true ∧ fdq cX3_put 19 (.aload_n 0) 1 = true ∧ fdq cX3_put 20 (.getfield 9) 3 = true ∧ fdq cX3_put 23 (.iload_n 1) 1 = true ∧ fdq cX3_put 24 (.aaload) 1 = true ∧ fdq cX3_put 25 (.iload_n 2) 1 = true ∧ fdq cX3_put 26 (.iaload) 1 = true ∧ fdq cX3_put 27 (.istore 4) 2 = true ∧ fdq cX3_put 29 (.aload_n 0) 1 = true ∧ fdq cX3_put 30 (.getfield 9) 3 = true ∧ fdq cX3_put 33 (.iload_n 1) 1 = true ∧ fdq cX3_put 34 (.aaload) 1 = true ∧ fdq cX3_put 35 (.iload_n 2) 1 = true ∧ fdq cX3_put 36 (.iload_n 3) 1 = true ∧ fdq cX3_put 37 (.iastore) 1 = true ∧ fdq cX3_put 38 (.iload 4) 2 = true := by decide +kernel
theorem dX3_put_18 : decode cX3_put 18 = .ok (.ireturn, 1) := fdf dAb_135.1
theorem dX3_put_19 : decode cX3_put 19 = .ok (.aload_n 0, 1) := fdf dAb_135.2.1
theorem dX3_put_20 : decode cX3_put 20 = .ok (.getfield 9, 3) := fdf dAb_135.2.2.1
theorem dX3_put_23 : decode cX3_put 23 = .ok (.iload_n 1, 1) := fdf dAb_135.2.2.2.1
theorem dX3_put_24 : decode cX3_put 24 = .ok (.aaload, 1) := fdf dAb_135.2.2.2.2.1
theorem dX3_put_25 : decode cX3_put 25 = .ok (.iload_n 2, 1) := fdf dAb_135.2.2.2.2.2.1
theorem dX3_put_26 : decode cX3_put 26 = .ok (.iaload, 1) := fdf dAb_135.2.2.2.2.2.2.1
theorem dX3_put_27 : decode cX3_put 27 = .ok (.istore 4, 2) := fdf dAb_135.2.2.2.2.2.2.2.1
theorem dX3_put_29 : decode cX3_put 29 = .ok (.aload_n 0, 1) := fdf dAb_135.2.2.2.2.2.2.2.2.1
theorem dX3_put_30 : decode cX3_put 30 = .ok (.getfield 9, 3) := fdf dAb_135.2.2.2.2.2.2.2.2.2.1
theorem dX3_put_33 : decode cX3_put 33 = .ok (.iload_n 1, 1) := fdf dAb_135.2.2.2.2.2.2.2.2.2.2.1
theorem dX3_put_34 : decode cX3_put 34 = .ok (.aaload, 1) := fdf dAb_135.2.2.2.2.2.2.2.2.2.2.2.1
theorem dX3_put_35 : decode cX3_put 35 = .ok (.iload_n 2, 1) := fdf dAb_135.2.2.2.2.2.2.2.2.2.2.2.2.1
theorem dX3_put_36 : decode cX3_put 36 = .ok (.iload_n 3, 1) := fdf dAb_135.2.2.2.2.2.2.2.2.2.2.2.2.2.1
theorem dX3_put_37 : decode cX3_put 37 = .ok (.iastore, 1) := fdf dAb_135.2.2.2.2.2.2.2.2.2.2.2.2.2.2.1
theorem dX3_put_38 : decode cX3_put 38 = .ok (.iload 4, 2) := fdf dAb_135.2.2.2.2.2.2.2.2.2.2.2.2.2.2.2
theorem dAb_136 : fdq cX3_put 40 (.ireturn) 1 = true ∧ fdq cX3_at 0 (.aload_n 0) 1 = true ∧ fdq cX3_at 1 (.aload_n 0) 1 = true ∧ fdq cX3_at 2 (.iload_n 1) 1 = true ∧ fdq cX3_at 3 (.iload_n 2) 1 = true ∧ fdq cX3_at 4 (.invokevirtual 85) 3 = true ∧ fdq cX3_at 7 (.iconst 0) 1 = true ∧ fdq cX3_at 8 (.invokevirtual 81) 3 = true ∧ fdq cX3_at 11 (.ifCond .eq 7) 3 = true ∧ fdq cX3_at 14 (.iconst 0) 1 = true ∧ fdq cX3_at 15 (.goto 11) 3 = true ∧ fdq cX3_at 18 (.aload_n 0) 1 = true ∧ fdq cX3_at 19 (.getfield 9) 3 = true ∧ fdq cX3_at 22 (.iload_n 1) 1 = true ∧ fdq cX3_at 23 (.aaload) 1 = true ∧ fdq cX3_at 24 (.iload_n 2) 1 = true := by decide +kernel
theorem dX3_put_40 : decode cX3_put 40 = .ok (.ireturn, 1) := fdf dAb_136.1
theorem dX3_at_0 : decode cX3_at 0 = .ok (.aload_n 0, 1) := fdf dAb_136.2.1
theorem dX3_at_1 : decode cX3_at 1 = .ok (.aload_n 0, 1) := fdf dAb_136.2.2.1
theorem dX3_at_2 : decode cX3_at 2 = .ok (.iload_n 1, 1) := fdf dAb_136.2.2.2.1
theorem dX3_at_3 : decode cX3_at 3 = .ok (.iload_n 2, 1) := fdf dAb_136.2.2.2.2.1
theorem dX3_at_4 : decode cX3_at 4 = .ok (.invokevirtual 85, 3) := fdf dAb_136.2.2.2.2.2.1
theorem dX3_at_7 : decode cX3_at 7 = .ok (.iconst 0, 1) := fdf dAb_136.2.2.2.2.2.2.1
theorem dX3_at_8 : decode cX3_at 8 = .ok (.invokevirtual 81, 3) := fdf dAb_136.2.2.2.2.2.2.2.1
theorem dX3_at_11 : decode cX3_at 11 = .ok (.ifCond .eq 7, 3) := fdf dAb_136.2.2.2.2.2.2.2.2.1
theorem dX3_at_14 : decode cX3_at 14 = .ok (.iconst 0, 1) := fdf dAb_136.2.2.2.2.2.2.2.2.2.1
theorem dX3_at_15 : decode cX3_at 15 = .ok (.goto 11, 3) := fdf dAb_136.2.2.2.2.2.2.2.2.2.2.1
theorem dX3_at_18 : decode cX3_at 18 = .ok (.aload_n 0, 1) := fdf dAb_136.2.2.2.2.2.2.2.2.2.2.2.1
theorem dX3_at_19 : decode cX3_at 19 = .ok (.getfield 9, 3) := fdf dAb_136.2.2.2.2.2.2.2.2.2.2.2.2.1
theorem dX3_at_22 : decode cX3_at 22 = .ok (.iload_n 1, 1) := fdf dAb_136.2.2.2.2.2.2.2.2.2.2.2.2.2.1
theorem dX3_at_23 : decode cX3_at 23 = .ok (.aaload, 1) := fdf dAb_136.2.2.2.2.2.2.2.2.2.2.2.2.2.2.1
theorem dX3_at_24 : decode cX3_at 24 = .ok (.iload_n 2, 1) := fdf dAb_136.2.2.2.2.2.2.2.2.2.2.2.2.2.2.2
theorem dAb_137 : fdq cX3_at 25 (.iaload) 1 = true ∧ fdq cX3_at 26 (.ireturn) 1 = true ∧ fdq cX3_part 0 (.iload_n 1) 1 = true ∧ fdq cX3_part 1 (.iconst 3) 1 = true ∧ fdq cX3_part 2 (.bipush 6) 2 = true ∧ fdq cX3_part 4 (.invokestatic 24) 3 = true ∧ fdq cX3_part 7 (.ifCond .eq 11) 3 = true ∧ fdq cX3_part 10 (.aload_n 0) 1 = true ∧ fdq cX3_part 11 (.iload_n 2) 1 = true ∧ fdq cX3_part 12 (.invokevirtual 32) 3 = true ∧ fdq cX3_part 15 (.ifCond .eq 7) 3 = true ∧ fdq cX3_part 18 (.iconst 1) 1 = true ∧ fdq cX3_part 19 (.goto 4) 3 = true ∧ fdq cX3_part 22 (.iconst 0) 1 = true ∧ fdq cX3_part 23 (.istore 5) 2 = true ∧ fdq cX3_part 25 (.aload_n 0) 1 = true := by decide +kernel
theorem dX3_at_25 : decode cX3_at 25 = .ok (.iaload, 1) := fdf dAb_137.1
theorem dX3_at_26 : decode cX3_at 26 = .ok (.ireturn, 1) := fdf dAb_137.2.1
theorem dX3_part_0 : decode cX3_part 0 = .ok (.iload_n 1, 1) := fdf dAb_137.2.2.1
theorem dX3_part_1 : decode cX3_part 1 = .ok (.iconst 3, 1) := fdf dAb_137.2.2.2.1
theorem dX3_part_2 : decode cX3_part 2 = .ok (.bipush 6, 2) := fdf dAb_137.2.2.2.2.1
theorem dX3_part_4 : decode cX3_part 4 = .ok (.invokestatic 24, 3) := fdf dAb_137.2.2.2.2.2.1
theorem dX3_part_7 : decode cX3_part 7 = .ok (.ifCond .eq 11, 3) := fdf dAb_137.2.2.2.2.2.2.1
theorem dX3_part_10 : decode cX3_part 10 = .ok (.aload_n 0, 1) := fdf dAb_137.2.2.2.2.2.2.2.1
theorem dX3_part_11 : decode cX3_part 11 = .ok (.iload_n 2, 1) := fdf dAb_137.2.2.2.2.2.2.2.2.1
theorem dX3_part_12 : decode cX3_part 12 = .ok (.invokevirtual 32, 3) := fdf dAb_137.2.2.2.2.2.2.2.2.2.1
theorem dX3_part_15 : decode cX3_part 15 = .ok (.ifCond .eq 7, 3) := fdf dAb_137.2.2.2.2.2.2.2.2.2.2.1
theorem dX3_part_18 : decode cX3_part 18 = .ok (.iconst 1, 1) := fdf dAb_137.2.2.2.2.2.2.2.2.2.2.2.1
theorem dX3_part_19 : decode cX3_part 19 = .ok (.goto 4, 3) := fdf dAb_137.2.2.2.2.2.2.2.2.2.2.2.2.1
theorem dX3_part_22 : decode cX3_part 22 = .ok (.iconst 0, 1) := fdf dAb_137.2.2.2.2.2.2.2.2.2.2.2.2.2.1
theorem dX3_part_23 : decode cX3_part 23 = .ok (.istore 5, 2) := fdf dAb_137.2.2.2.2.2.2.2.2.2.2.2.2.2.2.1
theorem dX3_part_25 : decode cX3_part 25 = .ok (.aload_n 0, 1) := fdf dAb_137.2.2.2.2.2.2.2.2.2.2.2.2.2.2.2
theorem dAb_138 : fdq cX3_part 26 (.iload 5) 2 = true ∧ fdq cX3_part 28 (.iload 5) 2 = true ∧ fdq cX3_part 30 (.ifCond .ne 36) 3 = true ∧ fdq cX3_part 33 (.iload_n 3) 1 = true ∧ fdq cX3_part 34 (.iconst 0) 1 = true ∧ fdq cX3_part 35 (.aload_n 0) 1 = true ∧ fdq cX3_part 36 (.getfield 21) 3 = true ∧ fdq cX3_part 39 (.iload_n 2) 1 = true ∧ fdq cX3_part 40 (.iaload) 1 = true ∧ fdq cX3_part 41 (.invokestatic 24) 3 = true ∧ fdq cX3_part 44 (.ifCond .eq 18) 3 = true ∧ fdq cX3_part 47 (.iload 4) 2 = true ∧ fdq cX3_part 49 (.iload_n 3) 1 = true ∧ fdq cX3_part 50 (.aload_n 0) 1 = true ∧ fdq cX3_part 51 (.getfield 21) 3 = true ∧ fdq cX3_part 54 (.iload_n 2) 1 = true := by decide +kernel
theorem dX3_part_26 : decode cX3_part 26 = .ok (.iload 5, 2) := fdf dAb_138.1
theorem dX3_part_28 : decode cX3_part 28 = .ok (.iload 5, 2) := fdf dAb_138.2.1
theorem dX3_part_30 : decode cX3_part 30 = .ok (.ifCond .ne 36, 3) := fdf dAb_138.2.2.1
theorem dX3_part_33 : decode cX3_part 33 = .ok (.iload_n 3, 1) := fdf dAb_138.2.2.2.1
theorem dX3_part_34 : decode cX3_part 34 = .ok (.iconst 0, 1) := fdf dAb_138.2.2.2.2.1
theorem dX3_part_35 : decode cX3_part 35 = .ok (.aload_n 0, 1) := fdf dAb_138.2.2.2.2.2.1
theorem dX3_part_36 : decode cX3_part 36 = .ok (.getfield 21, 3) := fdf dAb_138.2.2.2.2.2.2.1
theorem dX3_part_39 : decode cX3_part 39 = .ok (.iload_n 2, 1) := fdf dAb_138.2.2.2.2.2.2.2.1
theorem dX3_part_40 : decode cX3_part 40 = .ok (.iaload, 1) := fdf dAb_138.2.2.2.2.2.2.2.2.1
theorem dX3_part_41 : decode cX3_part 41 = .ok (.invokestatic 24, 3) := fdf dAb_138.2.2.2.2.2.2.2.2.2.1
theorem dX3_part_44 : decode cX3_part 44 = .ok (.ifCond .eq 18, 3) := fdf dAb_138.2.2.2.2.2.2.2.2.2.2.1
theorem dX3_part_47 : decode cX3_part 47 = .ok (.iload 4, 2) := fdf dAb_138.2.2.2.2.2.2.2.2.2.2.2.1
theorem dX3_part_49 : decode cX3_part 49 = .ok (.iload_n 3, 1) := fdf dAb_138.2.2.2.2.2.2.2.2.2.2.2.2.1
theorem dX3_part_50 : decode cX3_part 50 = .ok (.aload_n 0, 1) := fdf dAb_138.2.2.2.2.2.2.2.2.2.2.2.2.2.1
theorem dX3_part_51 : decode cX3_part 51 = .ok (.getfield 21, 3) := fdf dAb_138.2.2.2.2.2.2.2.2.2.2.2.2.2.2.1
theorem dX3_part_54 : decode cX3_part 54 = .ok (.iload_n 2, 1) := fdf dAb_138.2.2.2.2.2.2.2.2.2.2.2.2.2.2.2
theorem dAb_139 : fdq cX3_part 55 (.iaload) 1 = true ∧ fdq cX3_part 56 (.invokestatic 24) 3 = true ∧ fdq cX3_part 59 (.ifCond .ne 7) 3 = true ∧ fdq cX3_part 62 (.iconst 1) 1 = true ∧ fdq cX3_part 63 (.goto 4) 3 = true ∧ fdq cX3_part 66 (.iconst 0) 1 = true ∧ fdq cX3_part 67 (.invokevirtual 81) 3 = true ∧ fdq cX3_part 70 (.ifCond .eq 5) 3 = true ∧ fdq cX3_part 73 (.iconst 0) 1 = true ∧ fdq cX3_part 74 (.ireturn) 1 = true ∧ fdq cX3_part 75 (.aload_n 0) 1 = true ∧ fdq cX3_part 76 (.getfield 15) 3 = true ∧ fdq cX3_part 79 (.iload_n 2) 1 = true ∧ fdq cX3_part 80 (.iaload) 1 = true ∧ fdq cX3_part 81 (.istore 6) 2 = true ∧ fdq cX3_part 83 (.aload_n 0) 1 = true := by decide +kernel
theorem dX3_part_55 : decode cX3_part 55 = .ok (.iaload, 1) := fdf dAb_139.1
theorem dX3_part_56 : decode cX3_part 56 = .ok (.invokestatic 24, 3) := fdf dAb_139.2.1
theorem dX3_part_59 : decode cX3_part 59 = .ok (.ifCond .ne 7, 3) := fdf dAb_139.2.2.1
theorem dX3_part_62 : decode cX3_part 62 = .ok (.iconst 1, 1) := fdf dAb_139.2.2.2.1
theorem dX3_part_63 : decode cX3_part 63 = .ok (.goto 4, 3) := fdf dAb_139.2.2.2.2.1
theorem dX3_part_66 : decode cX3_part 66 = .ok (.iconst 0, 1) := fdf dAb_139.2.2.2.2.2.1
theorem dX3_part_67 : decode cX3_part 67 = .ok (.invokevirtual 81, 3) := fdf dAb_139.2.2.2.2.2.2.1
theorem dX3_part_70 : decode cX3_part 70 = .ok (.ifCond .eq 5, 3) := fdf dAb_139.2.2.2.2.2.2.2.1
theorem dX3_part_73 : decode cX3_part 73 = .ok (.iconst 0, 1) := fdf dAb_139.2.2.2.2.2.2.2.2.1
theorem dX3_part_74 : decode cX3_part 74 = .ok (.ireturn, 1) := fdf dAb_139.2.2.2.2.2.2.2.2.2.1
theorem dX3_part_75 : decode cX3_part 75 = .ok (.aload_n 0, 1) := fdf dAb_139.2.2.2.2.2.2.2.2.2.2.1
theorem dX3_part_76 : decode cX3_part 76 = .ok (.getfield 15, 3) := fdf dAb_139.2.2.2.2.2.2.2.2.2.2.2.1
theorem dX3_part_79 : decode cX3_part 79 = .ok (.iload_n 2, 1) := fdf dAb_139.2.2.2.2.2.2.2.2.2.2.2.2.1
theorem dX3_part_80 : decode cX3_part 80 = .ok (.iaload, 1) := fdf dAb_139.2.2.2.2.2.2.2.2.2.2.2.2.2.1
theorem dX3_part_81 : decode cX3_part 81 = .ok (.istore 6, 2) := fdf dAb_139.2.2.2.2.2.2.2.2.2.2.2.2.2.2.1
theorem dX3_part_83 : decode cX3_part 83 = .ok (.aload_n 0, 1) := fdf dAb_139.2.2.2.2.2.2.2.2.2.2.2.2.2.2.2
theorem dAb_140 : fdq cX3_part 84 (.getfield 18) 3 = true ∧ fdq cX3_part 87 (.iload_n 2) 1 = true ∧ fdq cX3_part 88 (.iaload) 1 = true ∧ fdq cX3_part 89 (.iload_n 3) 1 = true ∧ fdq cX3_part 90 (.iadd) 1 = true ∧ fdq cX3_part 91 (.istore 7) 2 = true ∧ fdq cX3_part 93 (.aload_n 0) 1 = true ∧ fdq cX3_part 94 (.getfield 15) 3 = true ∧ fdq cX3_part 97 (.iload_n 1) 1 = true ∧ fdq cX3_part 98 (.iload 6) 2 = true ∧ fdq cX3_part 100 (.iastore) 1 = true ∧ fdq cX3_part 101 (.aload_n 0) 1 = true ∧ fdq cX3_part 102 (.getfield 18) 3 = true ∧ fdq cX3_part 105 (.iload_n 1) 1 = true ∧ fdq cX3_part 106 (.iload 7) 2 = true ∧ fdq cX3_part 108 (.iastore) 1 = true := by decide +kernel
theorem dX3_part_84 : decode cX3_part 84 = .ok (.getfield 18, 3) := fdf dAb_140.1
theorem dX3_part_87 : decode cX3_part 87 = .ok (.iload_n 2, 1) := fdf dAb_140.2.1
theorem dX3_part_88 : decode cX3_part 88 = .ok (.iaload, 1) := fdf dAb_140.2.2.1
theorem dX3_part_89 : decode cX3_part 89 = .ok (.iload_n 3, 1) := fdf dAb_140.2.2.2.1
theorem dX3_part_90 : decode cX3_part 90 = .ok (.iadd, 1) := fdf dAb_140.2.2.2.2.1
theorem dX3_part_91 : decode cX3_part 91 = .ok (.istore 7, 2) := fdf dAb_140.2.2.2.2.2.1
theorem dX3_part_93 : decode cX3_part 93 = .ok (.aload_n 0, 1) := fdf dAb_140.2.2.2.2.2.2.1
theorem dX3_part_94 : decode cX3_part 94 = .ok (.getfield 15, 3) := fdf dAb_140.2.2.2.2.2.2.2.1
theorem dX3_part_97 : decode cX3_part 97 = .ok (.iload_n 1, 1) := fdf dAb_140.2.2.2.2.2.2.2.2.1
theorem dX3_part_98 : decode cX3_part 98 = .ok (.iload 6, 2) := fdf dAb_140.2.2.2.2.2.2.2.2.2.1
theorem dX3_part_100 : decode cX3_part 100 = .ok (.iastore, 1) := fdf dAb_140.2.2.2.2.2.2.2.2.2.2.1
theorem dX3_part_101 : decode cX3_part 101 = .ok (.aload_n 0, 1) := fdf dAb_140.2.2.2.2.2.2.2.2.2.2.2.1
theorem dX3_part_102 : decode cX3_part 102 = .ok (.getfield 18, 3) := fdf dAb_140.2.2.2.2.2.2.2.2.2.2.2.2.1
theorem dX3_part_105 : decode cX3_part 105 = .ok (.iload_n 1, 1) := fdf dAb_140.2.2.2.2.2.2.2.2.2.2.2.2.2.1
theorem dX3_part_106 : decode cX3_part 106 = .ok (.iload 7, 2) := fdf dAb_140.2.2.2.2.2.2.2.2.2.2.2.2.2.2.1
theorem dX3_part_108 : decode cX3_part 108 = .ok (.iastore, 1) := fdf dAb_140.2.2.2.2.2.2.2.2.2.2.2.2.2.2.2
theorem dAb_141 : fdq cX3_part 109 (.aload_n 0) 1 = true ∧ fdq cX3_part 110 (.getfield 21) 3 = true ∧ fdq cX3_part 113 (.iload_n 1) 1 = true ∧ fdq cX3_part 114 (.iload 4) 2 = true ∧ fdq cX3_part 116 (.iload_n 3) 1 = true ∧ fdq cX3_part 117 (.isub) 1 = true ∧ fdq cX3_part 118 (.iastore) 1 = true ∧ fdq cX3_part 119 (.iload 4) 2 = true ∧ fdq cX3_part 121 (.iload_n 3) 1 = true ∧ fdq cX3_part 122 (.isub) 1 = true ∧ fdq cX3_part 123 (.ireturn) 1 = true ∧ fdq cX3_set 0 (.aload_n 0) 1 = true ∧ fdq cX3_set 1 (.aload_n 0) 1 = true ∧ fdq cX3_set 2 (.iload_n 1) 1 = true ∧ fdq cX3_set 3 (.iload_n 2) 1 = true ∧ fdq cX3_set 4 (.invokevirtual 92) 3 = true := by decide +kernel
theorem dX3_part_109 : decode cX3_part 109 = .ok (.aload_n 0, 1) := fdf dAb_141.1
theorem dX3_part_110 : decode cX3_part 110 = .ok (.getfield 21, 3) := fdf dAb_141.2.1
theorem dX3_part_113 : decode cX3_part 113 = .ok (.iload_n 1, 1) := fdf dAb_141.2.2.1
theorem dX3_part_114 : decode cX3_part 114 = .ok (.iload 4, 2) := fdf dAb_141.2.2.2.1
theorem dX3_part_116 : decode cX3_part 116 = .ok (.iload_n 3, 1) := fdf dAb_141.2.2.2.2.1
theorem dX3_part_117 : decode cX3_part 117 = .ok (.isub, 1) := fdf dAb_141.2.2.2.2.2.1
theorem dX3_part_118 : decode cX3_part 118 = .ok (.iastore, 1) := fdf dAb_141.2.2.2.2.2.2.1
theorem dX3_part_119 : decode cX3_part 119 = .ok (.iload 4, 2) := fdf dAb_141.2.2.2.2.2.2.2.1
theorem dX3_part_121 : decode cX3_part 121 = .ok (.iload_n 3, 1) := fdf dAb_141.2.2.2.2.2.2.2.2.1
theorem dX3_part_122 : decode cX3_part 122 = .ok (.isub, 1) := fdf dAb_141.2.2.2.2.2.2.2.2.2.1
theorem dX3_part_123 : decode cX3_part 123 = .ok (.ireturn, 1) := fdf dAb_141.2.2.2.2.2.2.2.2.2.2.1
theorem dX3_set_0 : decode cX3_set 0 = .ok (.aload_n 0, 1) := fdf dAb_141.2.2.2.2.2.2.2.2.2.2.2.1
theorem dX3_set_1 : decode cX3_set 1 = .ok (.aload_n 0, 1) := fdf dAb_141.2.2.2.2.2.2.2.2.2.2.2.2.1
theorem dX3_set_2 : decode cX3_set 2 = .ok (.iload_n 1, 1) := fdf dAb_141.2.2.2.2.2.2.2.2.2.2.2.2.2.1
theorem dX3_set_3 : decode cX3_set 3 = .ok (.iload_n 2, 1) := fdf dAb_141.2.2.2.2.2.2.2.2.2.2.2.2.2.2.1
theorem dX3_set_4 : decode cX3_set 4 = .ok (.invokevirtual 92, 3) := fdf dAb_141.2.2.2.2.2.2.2.2.2.2.2.2.2.2.2
theorem dAb_142 : fdq cX3_set 7 (.iload_n 3) 1 = true ∧ fdq cX3_set 8 (.invokestatic 89) 3 = true ∧ fdq cX3_set 11 (.invokevirtual 81) 3 = true ∧ fdq cX3_set 14 (.ifCond .eq 5) 3 = true ∧ fdq cX3_set 17 (.iconst 0) 1 = true ∧ fdq cX3_set 18 (.ireturn) 1 = true ∧ fdq cX3_set 19 (.aload_n 0) 1 = true ∧ fdq cX3_set 20 (.iload_n 1) 1 = true ∧ fdq cX3_set 21 (.iload_n 2) 1 = true ∧ fdq cX3_set 22 (.invokevirtual 36) 3 = true ∧ fdq cX3_set 25 (.istore 4) 2 = true ∧ fdq cX3_set 27 (.aload_n 0) 1 = true ∧ fdq cX3_set 28 (.iload_n 1) 1 = true ∧ fdq cX3_set 29 (.iload_n 2) 1 = true ∧ fdq cX3_set 30 (.iload_n 3) 1 = true ∧ fdq cX3_set 31 (.invokevirtual 40) 3 = true := by decide +kernel
theorem dX3_set_7 : decode cX3_set 7 = .ok (.iload_n 3, 1) := fdf dAb_142.1
theorem dX3_set_8 : decode cX3_set 8 = .ok (.invokestatic 89, 3) := fdf dAb_142.2.1
theorem dX3_set_11 : decode cX3_set 11 = .ok (.invokevirtual 81, 3) := fdf dAb_142.2.2.1
theorem dX3_set_14 : decode cX3_set 14 = .ok (.ifCond .eq 5, 3) := fdf dAb_142.2.2.2.1
theorem dX3_set_17 : decode cX3_set 17 = .ok (.iconst 0, 1) := fdf dAb_142.2.2.2.2.1
theorem dX3_set_18 : decode cX3_set 18 = .ok (.ireturn, 1) := fdf dAb_142.2.2.2.2.2.1
theorem dX3_set_19 : decode cX3_set 19 = .ok (.aload_n 0, 1) := fdf dAb_142.2.2.2.2.2.2.1
theorem dX3_set_20 : decode cX3_set 20 = .ok (.iload_n 1, 1) := fdf dAb_142.2.2.2.2.2.2.2.1
theorem dX3_set_21 : decode cX3_set 21 = .ok (.iload_n 2, 1) := fdf dAb_142.2.2.2.2.2.2.2.2.1
theorem dX3_set_22 : decode cX3_set 22 = .ok (.invokevirtual 36, 3) := fdf dAb_142.2.2.2.2.2.2.2.2.2.1
theorem dX3_set_25 : decode cX3_set 25 = .ok (.istore 4, 2) := fdf dAb_142.2.2.2.2.2.2.2.2.2.2.1
theorem dX3_set_27 : decode cX3_set 27 = .ok (.aload_n 0, 1) := fdf dAb_142.2.2.2.2.2.2.2.2.2.2.2.1
theorem dX3_set_28 : decode cX3_set 28 = .ok (.iload_n 1, 1) := fdf dAb_142.2.2.2.2.2.2.2.2.2.2.2.2.1
theorem dX3_set_29 : decode cX3_set 29 = .ok (.iload_n 2, 1) := fdf dAb_142.2.2.2.2.2.2.2.2.2.2.2.2.2.1
theorem dX3_set_30 : decode cX3_set 30 = .ok (.iload_n 3, 1) := fdf dAb_142.2.2.2.2.2.2.2.2.2.2.2.2.2.2.1
theorem dX3_set_31 : decode cX3_set 31 = .ok (.invokevirtual 40, 3) := fdf dAb_142.2.2.2.2.2.2.2.2.2.2.2.2.2.2.2
theorem dAb_143 : fdq cX3_set 34 (.iload 4) 2 = true ∧ fdq cX3_set 36 (.ireturn) 1 = true ∧ fdq cX3_get 0 (.aload_n 0) 1 = true ∧ fdq cX3_get 1 (.aload_n 0) 1 = true ∧ fdq cX3_get 2 (.iload_n 1) 1 = true ∧ fdq cX3_get 3 (.iload_n 2) 1 = true ∧ fdq cX3_get 4 (.invokevirtual 92) 3 = true ∧ fdq cX3_get 7 (.iconst 0) 1 = true ∧ fdq cX3_get 8 (.invokevirtual 81) 3 = true ∧ fdq cX3_get 11 (.ifCond .eq 7) 3 = true ∧ fdq cX3_get 14 (.iconst 0) 1 = true ∧ fdq cX3_get 15 (.goto 9) 3 = true ∧ fdq cX3_get 18 (.aload_n 0) 1 = true ∧ fdq cX3_get 19 (.iload_n 1) 1 = true ∧ fdq cX3_get 20 (.iload_n 2) 1 = true ∧ fdq cX3_get 21 (.invokevirtual 36) 3 = true := by decide +kernel
theorem dX3_set_34 : decode cX3_set 34 = .ok (.iload 4, 2) := fdf dAb_143.1
theorem dX3_set_36 : decode cX3_set 36 = .ok (.ireturn, 1) := fdf dAb_143.2.1
theorem dX3_get_0 : decode cX3_get 0 = .ok (.aload_n 0, 1) := fdf dAb_143.2.2.1
theorem dX3_get_1 : decode cX3_get 1 = .ok (.aload_n 0, 1) := fdf dAb_143.2.2.2.1
theorem dX3_get_2 : decode cX3_get 2 = .ok (.iload_n 1, 1) := fdf dAb_143.2.2.2.2.1
theorem dX3_get_3 : decode cX3_get 3 = .ok (.iload_n 2, 1) := fdf dAb_143.2.2.2.2.2.1
theorem dX3_get_4 : decode cX3_get 4 = .ok (.invokevirtual 92, 3) := fdf dAb_143.2.2.2.2.2.2.1
theorem dX3_get_7 : decode cX3_get 7 = .ok (.iconst 0, 1) := fdf dAb_143.2.2.2.2.2.2.2.1
theorem dX3_get_8 : decode cX3_get 8 = .ok (.invokevirtual 81, 3) := fdf dAb_143.2.2.2.2.2.2.2.2.1
theorem dX3_get_11 : decode cX3_get 11 = .ok (.ifCond .eq 7, 3) := fdf dAb_143.2.2.2.2.2.2.2.2.2.1
theorem dX3_get_14 : decode cX3_get 14 = .ok (.iconst 0, 1) := fdf dAb_143.2.2.2.2.2.2.2.2.2.2.1
theorem dX3_get_15 : decode cX3_get 15 = .ok (.goto 9, 3) := fdf dAb_143.2.2.2.2.2.2.2.2.2.2.2.1
theorem dX3_get_18 : decode cX3_get 18 = .ok (.aload_n 0, 1) := fdf dAb_143.2.2.2.2.2.2.2.2.2.2.2.2.1
theorem dX3_get_19 : decode cX3_get 19 = .ok (.iload_n 1, 1) := fdf dAb_143.2.2.2.2.2.2.2.2.2.2.2.2.2.1
theorem dX3_get_20 : decode cX3_get 20 = .ok (.iload_n 2, 1) := fdf dAb_143.2.2.2.2.2.2.2.2.2.2.2.2.2.2.1
theorem dX3_get_21 : decode cX3_get 21 = .ok (.invokevirtual 36, 3) := fdf dAb_143.2.2.2.2.2.2.2.2.2.2.2.2.2.2.2
theorem dAb_144 : fdq cX3_get 24 (.ireturn) 1 = true ∧ fdq cX3_length 0 (.aload_n 0) 1 = true ∧ fdq cX3_length 1 (.aload_n 0) 1 = true ∧ fdq cX3_length 2 (.iload_n 1) 1 = true ∧ fdq cX3_length 3 (.invokevirtual 32) 3 = true ∧ fdq cX3_length 6 (.iconst 0) 1 = true ∧ fdq cX3_length 7 (.invokevirtual 81) 3 = true ∧ fdq cX3_length 10 (.ifCond .eq 7) 3 = true ∧ fdq cX3_length 13 (.iconst 0) 1 = true ∧ fdq cX3_length 14 (.goto 9) 3 = true ∧ fdq cX3_length 17 (.aload_n 0) 1 = true ∧ fdq cX3_length 18 (.getfield 21) 3 = true ∧ fdq cX3_length 21 (.iload_n 1) 1 = true ∧ fdq cX3_length 22 (.iaload) 1 = true ∧ fdq cX3_length 23 (.ireturn) 1 = true ∧ fdq cX3_isEmpty 0 (.aload_n 0) 1 = true := by decide +kernel
theorem dX3_get_24 : decode cX3_get 24 = .ok (.ireturn, 1) := fdf dAb_144.1
theorem dX3_length_0 : decode cX3_length 0 = .ok (.aload_n 0, 1) := fdf dAb_144.2.1
theorem dX3_length_1 : decode cX3_length 1 = .ok (.aload_n 0, 1) := fdf dAb_144.2.2.1
theorem dX3_length_2 : decode cX3_length 2 = .ok (.iload_n 1, 1) := fdf dAb_144.2.2.2.1
theorem dX3_length_3 : decode cX3_length 3 = .ok (.invokevirtual 32, 3) := fdf dAb_144.2.2.2.2.1
theorem dX3_length_6 : decode cX3_length 6 = .ok (.iconst 0, 1) := fdf dAb_144.2.2.2.2.2.1
theorem dX3_length_7 : decode cX3_length 7 = .ok (.invokevirtual 81, 3) := fdf dAb_144.2.2.2.2.2.2.1
theorem dX3_length_10 : decode cX3_length 10 = .ok (.ifCond .eq 7, 3) := fdf dAb_144.2.2.2.2.2.2.2.1
theorem dX3_length_13 : decode cX3_length 13 = .ok (.iconst 0, 1) := fdf dAb_144.2.2.2.2.2.2.2.2.1
theorem dX3_length_14 : decode cX3_length 14 = .ok (.goto 9, 3) := fdf dAb_144.2.2.2.2.2.2.2.2.2.1
theorem dX3_length_17 : decode cX3_length 17 = .ok (.aload_n 0, 1) := fdf dAb_144.2.2.2.2.2.2.2.2.2.2.1
theorem dX3_length_18 : decode cX3_length 18 = .ok (.getfield 21, 3) := fdf dAb_144.2.2.2.2.2.2.2.2.2.2.2.1
theorem dX3_length_21 : decode cX3_length 21 = .ok (.iload_n 1, 1) := fdf dAb_144.2.2.2.2.2.2.2.2.2.2.2.2.1
theorem dX3_length_22 : decode cX3_length 22 = .ok (.iaload, 1) := fdf dAb_144.2.2.2.2.2.2.2.2.2.2.2.2.2.1
theorem dX3_length_23 : decode cX3_length 23 = .ok (.ireturn, 1) := fdf dAb_144.2.2.2.2.2.2.2.2.2.2.2.2.2.2.1
theorem dX3_isEmpty_0 : decode cX3_isEmpty 0 = .ok (.aload_n 0, 1) := fdf dAb_144.2.2.2.2.2.2.2.2.2.2.2.2.2.2.2
theorem dAb_145 : fdq cX3_isEmpty 1 (.aload_n 0) 1 = true ∧ fdq cX3_isEmpty 2 (.iload_n 1) 1 = true ∧ fdq cX3_isEmpty 3 (.invokevirtual 32) 3 = true ∧ fdq cX3_isEmpty 6 (.iconst 0) 1 = true ∧ fdq cX3_isEmpty 7 (.invokevirtual 81) 3 = true ∧ fdq cX3_isEmpty 10 (.ifCond .ne 16) 3 = true ∧ fdq cX3_isEmpty 13 (.aload_n 0) 1 = true ∧ fdq cX3_isEmpty 14 (.getfield 21) 3 = true ∧ fdq cX3_isEmpty 17 (.iload_n 1) 1 = true ∧ fdq cX3_isEmpty 18 (.iaload) 1 = true ∧ fdq cX3_isEmpty 19 (.ifCond .ne 7) 3 = true ∧ fdq cX3_isEmpty 22 (.iconst 1) 1 = true ∧ fdq cX3_isEmpty 23 (.goto 4) 3 = true ∧ fdq cX3_isEmpty 26 (.iconst 0) 1 = true ∧ fdq cX3_isEmpty 27 (.ireturn) 1 = true ∧ fdq cX3_line 0 (.aload_n 0) 1 = true := by decide +kernel
theorem dX3_isEmpty_1 : decode cX3_isEmpty 1 = .ok (.aload_n 0, 1) := fdf dAb_145.1
theorem dX3_isEmpty_2 : decode cX3_isEmpty 2 = .ok (.iload_n 1, 1) := fdf dAb_145.2.1
theorem dX3_isEmpty_3 : decode cX3_isEmpty 3 = .ok (.invokevirtual 32, 3) := fdf dAb_145.2.2.1
theorem dX3_isEmpty_6 : decode cX3_isEmpty 6 = .ok (.iconst 0, 1) := fdf dAb_145.2.2.2.1
theorem dX3_isEmpty_7 : decode cX3_isEmpty 7 = .ok (.invokevirtual 81, 3) := fdf dAb_145.2.2.2.2.1
theorem dX3_isEmpty_10 : decode cX3_isEmpty 10 = .ok (.ifCond .ne 16, 3) := fdf dAb_145.2.2.2.2.2.1
theorem dX3_isEmpty_13 : decode cX3_isEmpty 13 = .ok (.aload_n 0, 1) := fdf dAb_145.2.2.2.2.2.2.1
theorem dX3_isEmpty_14 : decode cX3_isEmpty 14 = .ok (.getfield 21, 3) := fdf dAb_145.2.2.2.2.2.2.2.1
theorem dX3_isEmpty_17 : decode cX3_isEmpty 17 = .ok (.iload_n 1, 1) := fdf dAb_145.2.2.2.2.2.2.2.2.1
theorem dX3_isEmpty_18 : decode cX3_isEmpty 18 = .ok (.iaload, 1) := fdf dAb_145.2.2.2.2.2.2.2.2.2.1
theorem dX3_isEmpty_19 : decode cX3_isEmpty 19 = .ok (.ifCond .ne 7, 3) := fdf dAb_145.2.2.2.2.2.2.2.2.2.2.1
theorem dX3_isEmpty_22 : decode cX3_isEmpty 22 = .ok (.iconst 1, 1) := fdf dAb_145.2.2.2.2.2.2.2.2.2.2.2.1
theorem dX3_isEmpty_23 : decode cX3_isEmpty 23 = .ok (.goto 4, 3) := fdf dAb_145.2.2.2.2.2.2.2.2.2.2.2.2.1
theorem dX3_isEmpty_26 : decode cX3_isEmpty 26 = .ok (.iconst 0, 1) := fdf dAb_145.2.2.2.2.2.2.2.2.2.2.2.2.2.1
theorem dX3_isEmpty_27 : decode cX3_isEmpty 27 = .ok (.ireturn, 1) := fdf dAb_145.2.2.2.2.2.2.2.2.2.2.2.2.2.2.1
theorem dX3_line_0 : decode cX3_line 0 = .ok (.aload_n 0, 1) := fdf dAb_145.2.2.2.2.2.2.2.2.2.2.2.2.2.2.2
theorem dAb_146 : fdq cX3_line 1 (.aload_n 0) 1 = true ∧ fdq cX3_line 2 (.iload_n 1) 1 = true ∧ fdq cX3_line 3 (.invokevirtual 32) 3 = true ∧ fdq cX3_line 6 (.iconst 0) 1 = true ∧ fdq cX3_line 7 (.invokevirtual 81) 3 = true ∧ fdq cX3_line 10 (.ifCond .eq 6) 3 = true ∧ fdq cX3_line 13 (.ldc 68) 2 = true ∧ fdq cX3_line 15 (.areturn) 1 = true ∧ fdq cX3_line 16 (.ldc 68) 2 = true ∧ fdq cX3_line 18 (.astore_n 3) 1 = true ∧ fdq cX3_line 19 (.aload_n 0) 1 = true ∧ fdq cX3_line 20 (.iload_n 1) 1 = true ∧ fdq cX3_line 21 (.invokevirtual 95) 3 = true ∧ fdq cX3_line 24 (.astore 4) 2 = true ∧ fdq cX3_line 26 (.aload 4) 2 = true ∧ fdq cX3_line 28 (.arraylength) 1 = true := by decide +kernel
theorem dX3_line_1 : decode cX3_line 1 = .ok (.aload_n 0, 1) := fdf dAb_146.1
theorem dX3_line_2 : decode cX3_line 2 = .ok (.iload_n 1, 1) := fdf dAb_146.2.1
theorem dX3_line_3 : decode cX3_line 3 = .ok (.invokevirtual 32, 3) := fdf dAb_146.2.2.1
theorem dX3_line_6 : decode cX3_line 6 = .ok (.iconst 0, 1) := fdf dAb_146.2.2.2.1
theorem dX3_line_7 : decode cX3_line 7 = .ok (.invokevirtual 81, 3) := fdf dAb_146.2.2.2.2.1
theorem dX3_line_10 : decode cX3_line 10 = .ok (.ifCond .eq 6, 3) := fdf dAb_146.2.2.2.2.2.1
theorem dX3_line_13 : decode cX3_line 13 = .ok (.ldc 68, 2) := fdf dAb_146.2.2.2.2.2.2.1
theorem dX3_line_15 : decode cX3_line 15 = .ok (.areturn, 1) := fdf dAb_146.2.2.2.2.2.2.2.1
theorem dX3_line_16 : decode cX3_line 16 = .ok (.ldc 68, 2) := fdf dAb_146.2.2.2.2.2.2.2.2.1
theorem dX3_line_18 : decode cX3_line 18 = .ok (.astore_n 3, 1) := fdf dAb_146.2.2.2.2.2.2.2.2.2.1
theorem dX3_line_19 : decode cX3_line 19 = .ok (.aload_n 0, 1) := fdf dAb_146.2.2.2.2.2.2.2.2.2.2.1
theorem dX3_line_20 : decode cX3_line 20 = .ok (.iload_n 1, 1) := fdf dAb_146.2.2.2.2.2.2.2.2.2.2.2.1
theorem dX3_line_21 : decode cX3_line 21 = .ok (.invokevirtual 95, 3) := fdf dAb_146.2.2.2.2.2.2.2.2.2.2.2.2.1
theorem dX3_line_24 : decode cX3_line 24 = .ok (.astore 4, 2) := fdf dAb_146.2.2.2.2.2.2.2.2.2.2.2.2.2.1
theorem dX3_line_26 : decode cX3_line 26 = .ok (.aload 4, 2) := fdf dAb_146.2.2.2.2.2.2.2.2.2.2.2.2.2.2.1
theorem dX3_line_28 : decode cX3_line 28 = .ok (.arraylength, 1) := fdf dAb_146.2.2.2.2.2.2.2.2.2.2.2.2.2.2.2
theorem dAb_147 : fdq cX3_line 29 (.istore 5) 2 = true ∧ fdq cX3_line 31 (.iconst 0) 1 = true ∧ fdq cX3_line 32 (.istore 6) 2 = true ∧ fdq cX3_line 34 (.iload 6) 2 = true ∧ fdq cX3_line 36 (.iload 5) 2 = true ∧ fdq cX3_line 38 (.if_icmp .ge 93) 3 = true ∧ fdq cX3_line 41 (.aload 4) 2 = true ∧ fdq cX3_line 43 (.iload 6) 2 = true ∧ fdq cX3_line 45 (.iaload) 1 = true ∧ fdq cX3_line 46 (.istore 7) 2 = true ∧ fdq cX3_line 48 (.aload_n 3) 1 = true ∧ fdq cX3_line 49 (.invokevirtual 99) 3 = true ∧ fdq cX3_line 52 (.ifCond .eq 11) 3 = true ∧ fdq cX3_line 55 (.iload 7) 2 = true ∧ fdq cX3_line 57 (.invokestatic 105) 3 = true ∧ fdq cX3_line 60 (.goto 64) 3 = true := by decide +kernel
theorem dX3_line_29 : decode cX3_line 29 = .ok (.istore 5, 2) := fdf dAb_147.1
theorem dX3_line_31 : decode cX3_line 31 = .ok (.iconst 0, 1) := fdf dAb_147.2.1
theorem dX3_line_32 : decode cX3_line 32 = .ok (.istore 6, 2) := fdf dAb_147.2.2.1
theorem dX3_line_34 : decode cX3_line 34 = .ok (.iload 6, 2) := fdf dAb_147.2.2.2.1
theorem dX3_line_36 : decode cX3_line 36 = .ok (.iload 5, 2) := fdf dAb_147.2.2.2.2.1
theorem dX3_line_38 : decode cX3_line 38 = .ok (.if_icmp .ge 93, 3) := fdf dAb_147.2.2.2.2.2.1
theorem dX3_line_41 : decode cX3_line 41 = .ok (.aload 4, 2) := fdf dAb_147.2.2.2.2.2.2.1
theorem dX3_line_43 : decode cX3_line 43 = .ok (.iload 6, 2) := fdf dAb_147.2.2.2.2.2.2.2.1
theorem dX3_line_45 : decode cX3_line 45 = .ok (.iaload, 1) := fdf dAb_147.2.2.2.2.2.2.2.2.1
theorem dX3_line_46 : decode cX3_line 46 = .ok (.istore 7, 2) := fdf dAb_147.2.2.2.2.2.2.2.2.2.1
theorem dX3_line_48 : decode cX3_line 48 = .ok (.aload_n 3, 1) := fdf dAb_147.2.2.2.2.2.2.2.2.2.2.1
theorem dX3_line_49 : decode cX3_line 49 = .ok (.invokevirtual 99, 3) := fdf dAb_147.2.2.2.2.2.2.2.2.2.2.2.1
theorem dX3_line_52 : decode cX3_line 52 = .ok (.ifCond .eq 11, 3) := fdf dAb_147.2.2.2.2.2.2.2.2.2.2.2.2.1
theorem dX3_line_55 : decode cX3_line 55 = .ok (.iload 7, 2) := fdf dAb_147.2.2.2.2.2.2.2.2.2.2.2.2.2.1
theorem dX3_line_57 : decode cX3_line 57 = .ok (.invokestatic 105, 3) := fdf dAb_147.2.2.2.2.2.2.2.2.2.2.2.2.2.2.1
theorem dX3_line_60 : decode cX3_line 60 = .ok (.goto 64, 3) := fdf dAb_147.2.2.2.2.2.2.2.2.2.2.2.2.2.2.2
theorem dAb_148 : fdq cX3_line 63 (.iload_n 2) 1 = true ∧ fdq cX3_line 64 (.ifCond .eq 33) 3 = true ∧ fdq cX3_line 67 (.new 65) 3 = true ∧ fdq cX3_line 70 (.dup) 1 = true ∧ fdq cX3_line 71 (.invokespecial 67) 3 = true ∧ fdq cX3_line 74 (.iload 7) 2 = true ∧ fdq cX3_line 76 (.invokestatic 105) 3 = true ∧ fdq cX3_line 79 (.invokevirtual 70) 3 = true ∧ fdq cX3_line 82 (.ldc 109) 2 = true ∧ fdq cX3_line 84 (.invokevirtual 70) 3 = true ∧ fdq cX3_line 87 (.aload_n 3) 1 = true ∧ fdq cX3_line 88 (.invokevirtual 70) 3 = true ∧ fdq cX3_line 91 (.invokevirtual 77) 3 = true ∧ fdq cX3_line 94 (.goto 30) 3 = true ∧ fdq cX3_line 97 (.new 65) 3 = true ∧ fdq cX3_line 100 (.dup) 1 = true := by decide +kernel
theorem dX3_line_63 : decode cX3_line 63 = .ok (.iload_n 2, 1) := fdf dAb_148.1
theorem dX3_line_64 : decode cX3_line 64 = .ok (.ifCond .eq 33, 3) := fdf dAb_148.2.1
theorem dX3_line_67 : decode cX3_line 67 = .ok (.new 65, 3) := fdf dAb_148.2.2.1
theorem dX3_line_70 : decode cX3_line 70 = .ok (.dup, 1) := fdf dAb_148.2.2.2.1
theorem dX3_line_71 : decode cX3_line 71 = .ok (.invokespecial 67, 3) := fdf dAb_148.2.2.2.2.1
theorem dX3_line_74 : decode cX3_line 74 = .ok (.iload 7, 2) := fdf dAb_148.2.2.2.2.2.1
theorem dX3_line_76 : decode cX3_line 76 = .ok (.invokestatic 105, 3) := fdf dAb_148.2.2.2.2.2.2.1
theorem dX3_line_79 : decode cX3_line 79 = .ok (.invokevirtual 70, 3) := fdf dAb_148.2.2.2.2.2.2.2.1
theorem dX3_line_82 : decode cX3_line 82 = .ok (.ldc 109, 2) := fdf dAb_148.2.2.2.2.2.2.2.2.1
theorem dX3_line_84 : decode cX3_line 84 = .ok (.invokevirtual 70, 3) := fdf dAb_148.2.2.2.2.2.2.2.2.2.1
theorem dX3_line_87 : decode cX3_line 87 = .ok (.aload_n 3, 1) := fdf dAb_148.2.2.2.2.2.2.2.2.2.2.1
theorem dX3_line_88 : decode cX3_line 88 = .ok (.invokevirtual 70, 3) := fdf dAb_148.2.2.2.2.2.2.2.2.2.2.2.1
theorem dX3_line_91 : decode cX3_line 91 = .ok (.invokevirtual 77, 3) := fdf dAb_148.2.2.2.2.2.2.2.2.2.2.2.2.1
theorem dX3_line_94 : decode cX3_line 94 = .ok (.goto 30, 3) := fdf dAb_148.2.2.2.2.2.2.2.2.2.2.2.2.2.1
theorem dX3_line_97 : decode cX3_line 97 = .ok (.new 65, 3) := fdf dAb_148.2.2.2.2.2.2.2.2.2.2.2.2.2.2.1
theorem dX3_line_100 : decode cX3_line 100 = .ok (.dup, 1) := fdf dAb_148.2.2.2.2.2.2.2.2.2.2.2.2.2.2.2
theorem dAb_149 : fdq cX3_line 101 (.invokespecial 67) 3 = true ∧ fdq cX3_line 104 (.aload_n 3) 1 = true ∧ fdq cX3_line 105 (.invokevirtual 70) 3 = true ∧ fdq cX3_line 108 (.ldc 109) 2 = true ∧ fdq cX3_line 110 (.invokevirtual 70) 3 = true ∧ fdq cX3_line 113 (.iload 7) 2 = true ∧ fdq cX3_line 115 (.invokestatic 105) 3 = true ∧ fdq cX3_line 118 (.invokevirtual 70) 3 = true ∧ fdq cX3_line 121 (.invokevirtual 77) 3 = true ∧ fdq cX3_line 124 (.astore_n 3) 1 = true ∧ fdq cX3_line 125 (.iinc 6 1) 3 = true ∧ fdq cX3_line 128 (.goto (-94)) 3 = true ∧ fdq cX3_line 131 (.aload_n 3) 1 = true ∧ fdq cX3_line 132 (.areturn) 1 = true ∧ fdq cX3_text 0 (.aload_n 0) 1 = true ∧ fdq cX3_text 1 (.iload_n 1) 1 = true := by decide +kernel
theorem dX3_line_101 : decode cX3_line 101 = .ok (.invokespecial 67, 3) := fdf dAb_149.1
theorem dX3_line_104 : decode cX3_line 104 = .ok (.aload_n 3, 1) := fdf dAb_149.2.1
theorem dX3_line_105 : decode cX3_line 105 = .ok (.invokevirtual 70, 3) := fdf dAb_149.2.2.1
theorem dX3_line_108 : decode cX3_line 108 = .ok (.ldc 109, 2) := fdf dAb_149.2.2.2.1
theorem dX3_line_110 : decode cX3_line 110 = .ok (.invokevirtual 70, 3) := fdf dAb_149.2.2.2.2.1
theorem dX3_line_113 : decode cX3_line 113 = .ok (.iload 7, 2) := fdf dAb_149.2.2.2.2.2.1
theorem dX3_line_115 : decode cX3_line 115 = .ok (.invokestatic 105, 3) := fdf dAb_149.2.2.2.2.2.2.1
theorem dX3_line_118 : decode cX3_line 118 = .ok (.invokevirtual 70, 3) := fdf dAb_149.2.2.2.2.2.2.2.1
theorem dX3_line_121 : decode cX3_line 121 = .ok (.invokevirtual 77, 3) := fdf dAb_149.2.2.2.2.2.2.2.2.1
theorem dX3_line_124 : decode cX3_line 124 = .ok (.astore_n 3, 1) := fdf dAb_149.2.2.2.2.2.2.2.2.2.1
theorem dX3_line_125 : decode cX3_line 125 = .ok (.iinc 6 1, 3) := fdf dAb_149.2.2.2.2.2.2.2.2.2.2.1
theorem dX3_line_128 : decode cX3_line 128 = .ok (.goto (-94), 3) := fdf dAb_149.2.2.2.2.2.2.2.2.2.2.2.1
theorem dX3_line_131 : decode cX3_line 131 = .ok (.aload_n 3, 1) := fdf dAb_149.2.2.2.2.2.2.2.2.2.2.2.2.1
theorem dX3_line_132 : decode cX3_line 132 = .ok (.areturn, 1) := fdf dAb_149.2.2.2.2.2.2.2.2.2.2.2.2.2.1
theorem dX3_text_0 : decode cX3_text 0 = .ok (.aload_n 0, 1) := fdf dAb_149.2.2.2.2.2.2.2.2.2.2.2.2.2.2.1
theorem dX3_text_1 : decode cX3_text 1 = .ok (.iload_n 1, 1) := fdf dAb_149.2.2.2.2.2.2.2.2.2.2.2.2.2.2.2
theorem dAb_150 : fdq cX3_text 2 (.iconst 0) 1 = true ∧ fdq cX3_text 3 (.invokevirtual 111) 3 = true ∧ fdq cX3_text 6 (.areturn) 1 = true ∧ fdq cX3_back 0 (.aload_n 0) 1 = true ∧ fdq cX3_back 1 (.iload_n 1) 1 = true ∧ fdq cX3_back 2 (.iconst 1) 1 = true ∧ fdq cX3_back 3 (.invokevirtual 111) 3 = true ∧ fdq cX3_back 6 (.areturn) 1 = true ∧ fdq cX3_indexOf 0 (.aload_n 0) 1 = true ∧ fdq cX3_indexOf 1 (.aload_n 0) 1 = true ∧ fdq cX3_indexOf 2 (.iload_n 1) 1 = true ∧ fdq cX3_indexOf 3 (.invokevirtual 32) 3 = true ∧ fdq cX3_indexOf 6 (.iload_n 2) 1 = true ∧ fdq cX3_indexOf 7 (.invokestatic 89) 3 = true ∧ fdq cX3_indexOf 10 (.invokevirtual 81) 3 = true ∧ fdq cX3_indexOf 13 (.ifCond .eq 7) 3 = true := by decide +kernel
theorem dX3_text_2 : decode cX3_text 2 = .ok (.iconst 0, 1) := fdf dAb_150.1
theorem dX3_text_3 : decode cX3_text 3 = .ok (.invokevirtual 111, 3) := fdf dAb_150.2.1
theorem dX3_text_6 : decode cX3_text 6 = .ok (.areturn, 1) := fdf dAb_150.2.2.1
theorem dX3_back_0 : decode cX3_back 0 = .ok (.aload_n 0, 1) := fdf dAb_150.2.2.2.1
theorem dX3_back_1 : decode cX3_back 1 = .ok (.iload_n 1, 1) := fdf dAb_150.2.2.2.2.1
theorem dX3_back_2 : decode cX3_back 2 = .ok (.iconst 1, 1) := fdf dAb_150.2.2.2.2.2.1
theorem dX3_back_3 : decode cX3_back 3 = .ok (.invokevirtual 111, 3) := fdf dAb_150.2.2.2.2.2.2.1
theorem dX3_back_6 : decode cX3_back 6 = .ok (.areturn, 1) := fdf dAb_150.2.2.2.2.2.2.2.1
theorem dX3_indexOf_0 : decode cX3_indexOf 0 = .ok (.aload_n 0, 1) := fdf dAb_150.2.2.2.2.2.2.2.2.1
theorem dX3_indexOf_1 : decode cX3_indexOf 1 = .ok (.aload_n 0, 1) := fdf dAb_150.2.2.2.2.2.2.2.2.2.1
theorem dX3_indexOf_2 : decode cX3_indexOf 2 = .ok (.iload_n 1, 1) := fdf dAb_150.2.2.2.2.2.2.2.2.2.2.1
theorem dX3_indexOf_3 : decode cX3_indexOf 3 = .ok (.invokevirtual 32, 3) := fdf dAb_150.2.2.2.2.2.2.2.2.2.2.2.1
theorem dX3_indexOf_6 : decode cX3_indexOf 6 = .ok (.iload_n 2, 1) := fdf dAb_150.2.2.2.2.2.2.2.2.2.2.2.2.1
theorem dX3_indexOf_7 : decode cX3_indexOf 7 = .ok (.invokestatic 89, 3) := fdf dAb_150.2.2.2.2.2.2.2.2.2.2.2.2.2.1
theorem dX3_indexOf_10 : decode cX3_indexOf 10 = .ok (.invokevirtual 81, 3) := fdf dAb_150.2.2.2.2.2.2.2.2.2.2.2.2.2.2.1
theorem dX3_indexOf_13 : decode cX3_indexOf 13 = .ok (.ifCond .eq 7, 3) := fdf dAb_150.2.2.2.2.2.2.2.2.2.2.2.2.2.2.2
theorem dAb_151 : fdq cX3_indexOf 16 (.iconst 0) 1 = true ∧ fdq cX3_indexOf 17 (.goto 12) 3 = true ∧ fdq cX3_indexOf 20 (.aload_n 0) 1 = true ∧ fdq cX3_indexOf 21 (.iload_n 1) 1 = true ∧ fdq cX3_indexOf 22 (.invokevirtual 95) 3 = true ∧ fdq cX3_indexOf 25 (.iload_n 2) 1 = true ∧ fdq cX3_indexOf 26 (.invokestatic 115) 3 = true ∧ fdq cX3_indexOf 29 (.ireturn) 1 = true ∧ fdq cX3_lastIndexOf 0 (.aload_n 0) 1 = true ∧ fdq cX3_lastIndexOf 1 (.aload_n 0) 1 = true ∧ fdq cX3_lastIndexOf 2 (.iload_n 1) 1 = true ∧ fdq cX3_lastIndexOf 3 (.invokevirtual 32) 3 = true ∧ fdq cX3_lastIndexOf 6 (.iload_n 2) 1 = true ∧ fdq cX3_lastIndexOf 7 (.invokestatic 89) 3 = true ∧ fdq cX3_lastIndexOf 10 (.invokevirtual 81) 3 = true ∧ fdq cX3_lastIndexOf 13 (.ifCond .eq 5) 3 = true := by decide +kernel
theorem dX3_indexOf_16 : decode cX3_indexOf 16 = .ok (.iconst 0, 1) := fdf dAb_151.1
theorem dX3_indexOf_17 : decode cX3_indexOf 17 = .ok (.goto 12, 3) := fdf dAb_151.2.1
theorem dX3_indexOf_20 : decode cX3_indexOf 20 = .ok (.aload_n 0, 1) := fdf dAb_151.2.2.1
theorem dX3_indexOf_21 : decode cX3_indexOf 21 = .ok (.iload_n 1, 1) := fdf dAb_151.2.2.2.1
theorem dX3_indexOf_22 : decode cX3_indexOf 22 = .ok (.invokevirtual 95, 3) := fdf dAb_151.2.2.2.2.1
theorem dX3_indexOf_25 : decode cX3_indexOf 25 = .ok (.iload_n 2, 1) := fdf dAb_151.2.2.2.2.2.1
theorem dX3_indexOf_26 : decode cX3_indexOf 26 = .ok (.invokestatic 115, 3) := fdf dAb_151.2.2.2.2.2.2.1
theorem dX3_indexOf_29 : decode cX3_indexOf 29 = .ok (.ireturn, 1) := fdf dAb_151.2.2.2.2.2.2.2.1
theorem dX3_lastIndexOf_0 : decode cX3_lastIndexOf 0 = .ok (.aload_n 0, 1) := fdf dAb_151.2.2.2.2.2.2.2.2.1
theorem dX3_lastIndexOf_1 : decode cX3_lastIndexOf 1 = .ok (.aload_n 0, 1) := fdf dAb_151.2.2.2.2.2.2.2.2.2.1
theorem dX3_lastIndexOf_2 : decode cX3_lastIndexOf 2 = .ok (.iload_n 1, 1) := fdf dAb_151.2.2.2.2.2.2.2.2.2.2.1
theorem dX3_lastIndexOf_3 : decode cX3_lastIndexOf 3 = .ok (.invokevirtual 32, 3) := fdf dAb_151.2.2.2.2.2.2.2.2.2.2.2.1
theorem dX3_lastIndexOf_6 : decode cX3_lastIndexOf 6 = .ok (.iload_n 2, 1) := fdf dAb_151.2.2.2.2.2.2.2.2.2.2.2.2.1
theorem dX3_lastIndexOf_7 : decode cX3_lastIndexOf 7 = .ok (.invokestatic 89, 3) := fdf dAb_151.2.2.2.2.2.2.2.2.2.2.2.2.2.1
theorem dX3_lastIndexOf_10 : decode cX3_lastIndexOf 10 = .ok (.invokevirtual 81, 3) := fdf dAb_151.2.2.2.2.2.2.2.2.2.2.2.2.2.2.1
theorem dX3_lastIndexOf_13 : decode cX3_lastIndexOf 13 = .ok (.ifCond .eq 5, 3) := fdf dAb_151.2.2.2.2.2.2.2.2.2.2.2.2.2.2.2
theorem dAb_152 : fdq cX3_lastIndexOf 16 (.iconst 0) 1 = true ∧ fdq cX3_lastIndexOf 17 (.ireturn) 1 = true ∧ fdq cX3_lastIndexOf 18 (.iconst (-1)) 1 = true ∧ fdq cX3_lastIndexOf 19 (.istore_n 3) 1 = true ∧ fdq cX3_lastIndexOf 20 (.iconst 0) 1 = true ∧ fdq cX3_lastIndexOf 21 (.istore 4) 2 = true ∧ fdq cX3_lastIndexOf 23 (.iload 4) 2 = true ∧ fdq cX3_lastIndexOf 25 (.aload_n 0) 1 = true ∧ fdq cX3_lastIndexOf 26 (.getfield 21) 3 = true ∧ fdq cX3_lastIndexOf 29 (.iload_n 1) 1 = true ∧ fdq cX3_lastIndexOf 30 (.iaload) 1 = true ∧ fdq cX3_lastIndexOf 31 (.if_icmp .ge 23) 3 = true ∧ fdq cX3_lastIndexOf 34 (.aload_n 0) 1 = true ∧ fdq cX3_lastIndexOf 35 (.iload_n 1) 1 = true ∧ fdq cX3_lastIndexOf 36 (.iload 4) 2 = true ∧ fdq cX3_lastIndexOf 38 (.invokevirtual 36) 3 = true := by decide +kernel
theorem dX3_lastIndexOf_16 : decode cX3_lastIndexOf 16 = .ok (.iconst 0, 1) := fdf dAb_152.1
theorem dX3_lastIndexOf_17 : decode cX3_lastIndexOf 17 = .ok (.ireturn, 1) := fdf dAb_152.2.1
theorem dX3_lastIndexOf_18 : decode cX3_lastIndexOf 18 = .ok (.iconst (-1), 1) := fdf dAb_152.2.2.1
theorem dX3_lastIndexOf_19 : decode cX3_lastIndexOf 19 = .ok (.istore_n 3, 1) := fdf dAb_152.2.2.2.1
theorem dX3_lastIndexOf_20 : decode cX3_lastIndexOf 20 = .ok (.iconst 0, 1) := fdf dAb_152.2.2.2.2.1
theorem dX3_lastIndexOf_21 : decode cX3_lastIndexOf 21 = .ok (.istore 4, 2) := fdf dAb_152.2.2.2.2.2.1
theorem dX3_lastIndexOf_23 : decode cX3_lastIndexOf 23 = .ok (.iload 4, 2) := fdf dAb_152.2.2.2.2.2.2.1
theorem dX3_lastIndexOf_25 : decode cX3_lastIndexOf 25 = .ok (.aload_n 0, 1) := fdf dAb_152.2.2.2.2.2.2.2.1
theorem dX3_lastIndexOf_26 : decode cX3_lastIndexOf 26 = .ok (.getfield 21, 3) := fdf dAb_152.2.2.2.2.2.2.2.2.1
theorem dX3_lastIndexOf_29 : decode cX3_lastIndexOf 29 = .ok (.iload_n 1, 1) := fdf dAb_152.2.2.2.2.2.2.2.2.2.1
theorem dX3_lastIndexOf_30 : decode cX3_lastIndexOf 30 = .ok (.iaload, 1) := fdf dAb_152.2.2.2.2.2.2.2.2.2.2.1
theorem dX3_lastIndexOf_31 : decode cX3_lastIndexOf 31 = .ok (.if_icmp .ge 23, 3) := fdf dAb_152.2.2.2.2.2.2.2.2.2.2.2.1
theorem dX3_lastIndexOf_34 : decode cX3_lastIndexOf 34 = .ok (.aload_n 0, 1) := fdf dAb_152.2.2.2.2.2.2.2.2.2.2.2.2.1
theorem dX3_lastIndexOf_35 : decode cX3_lastIndexOf 35 = .ok (.iload_n 1, 1) := fdf dAb_152.2.2.2.2.2.2.2.2.2.2.2.2.2.1
theorem dX3_lastIndexOf_36 : decode cX3_lastIndexOf 36 = .ok (.iload 4, 2) := fdf dAb_152.2.2.2.2.2.2.2.2.2.2.2.2.2.2.1
theorem dX3_lastIndexOf_38 : decode cX3_lastIndexOf 38 = .ok (.invokevirtual 36, 3) := fdf dAb_152.2.2.2.2.2.2.2.2.2.2.2.2.2.2.2
theorem dAb_153 : fdq cX3_lastIndexOf 41 (.iload_n 2) 1 = true ∧ fdq cX3_lastIndexOf 42 (.if_icmp .ne 6) 3 = true ∧ fdq cX3_lastIndexOf 45 (.iload 4) 2 = true ∧ fdq cX3_lastIndexOf 47 (.istore_n 3) 1 = true ∧ fdq cX3_lastIndexOf 48 (.iinc 4 1) 3 = true ∧ fdq cX3_lastIndexOf 51 (.goto (-28)) 3 = true ∧ fdq cX3_lastIndexOf 54 (.iload_n 3) 1 = true ∧ fdq cX3_lastIndexOf 55 (.ireturn) 1 = true ∧ fdq cX3_has 0 (.aload_n 0) 1 = true ∧ fdq cX3_has 1 (.aload_n 0) 1 = true ∧ fdq cX3_has 2 (.iload_n 1) 1 = true ∧ fdq cX3_has 3 (.invokevirtual 32) 3 = true ∧ fdq cX3_has 6 (.iload_n 2) 1 = true ∧ fdq cX3_has 7 (.invokestatic 89) 3 = true ∧ fdq cX3_has 10 (.invokevirtual 81) 3 = true ∧ fdq cX3_has 13 (.ifCond .ne 19) 3 = true := by decide +kernel
theorem dX3_lastIndexOf_41 : decode cX3_lastIndexOf 41 = .ok (.iload_n 2, 1) := fdf dAb_153.1
theorem dX3_lastIndexOf_42 : decode cX3_lastIndexOf 42 = .ok (.if_icmp .ne 6, 3) := fdf dAb_153.2.1
theorem dX3_lastIndexOf_45 : decode cX3_lastIndexOf 45 = .ok (.iload 4, 2) := fdf dAb_153.2.2.1
theorem dX3_lastIndexOf_47 : decode cX3_lastIndexOf 47 = .ok (.istore_n 3, 1) := fdf dAb_153.2.2.2.1
theorem dX3_lastIndexOf_48 : decode cX3_lastIndexOf 48 = .ok (.iinc 4 1, 3) := fdf dAb_153.2.2.2.2.1
theorem dX3_lastIndexOf_51 : decode cX3_lastIndexOf 51 = .ok (.goto (-28), 3) := fdf dAb_153.2.2.2.2.2.1
theorem dX3_lastIndexOf_54 : decode cX3_lastIndexOf 54 = .ok (.iload_n 3, 1) := fdf dAb_153.2.2.2.2.2.2.1
theorem dX3_lastIndexOf_55 : decode cX3_lastIndexOf 55 = .ok (.ireturn, 1) := fdf dAb_153.2.2.2.2.2.2.2.1
theorem dX3_has_0 : decode cX3_has 0 = .ok (.aload_n 0, 1) := fdf dAb_153.2.2.2.2.2.2.2.2.1
theorem dX3_has_1 : decode cX3_has 1 = .ok (.aload_n 0, 1) := fdf dAb_153.2.2.2.2.2.2.2.2.2.1
theorem dX3_has_2 : decode cX3_has 2 = .ok (.iload_n 1, 1) := fdf dAb_153.2.2.2.2.2.2.2.2.2.2.1
theorem dX3_has_3 : decode cX3_has 3 = .ok (.invokevirtual 32, 3) := fdf dAb_153.2.2.2.2.2.2.2.2.2.2.2.1
theorem dX3_has_6 : decode cX3_has 6 = .ok (.iload_n 2, 1) := fdf dAb_153.2.2.2.2.2.2.2.2.2.2.2.2.1
theorem dX3_has_7 : decode cX3_has 7 = .ok (.invokestatic 89, 3) := fdf dAb_153.2.2.2.2.2.2.2.2.2.2.2.2.2.1
theorem dX3_has_10 : decode cX3_has 10 = .ok (.invokevirtual 81, 3) := fdf dAb_153.2.2.2.2.2.2.2.2.2.2.2.2.2.2.1
theorem dX3_has_13 : decode cX3_has 13 = .ok (.ifCond .ne 19, 3) := fdf dAb_153.2.2.2.2.2.2.2.2.2.2.2.2.2.2.2
theorem dAb_154 : fdq cX3_has 16 (.aload_n 0) 1 = true ∧ fdq cX3_has 17 (.iload_n 1) 1 = true ∧ fdq cX3_has 18 (.invokevirtual 95) 3 = true ∧ fdq cX3_has 21 (.iload_n 2) 1 = true ∧ fdq cX3_has 22 (.invokestatic 115) 3 = true ∧ fdq cX3_has 25 (.ifCond .lt 7) 3 = true ∧ fdq cX3_has 28 (.iconst 1) 1 = true ∧ fdq cX3_has 29 (.goto 4) 3 = true ∧ fdq cX3_has 32 (.iconst 0) 1 = true ∧ fdq cX3_has 33 (.ireturn) 1 = true ∧ fdq cX3_often 0 (.aload_n 0) 1 = true ∧ fdq cX3_often 1 (.aload_n 0) 1 = true ∧ fdq cX3_often 2 (.iload_n 1) 1 = true ∧ fdq cX3_often 3 (.invokevirtual 32) 3 = true ∧ fdq cX3_often 6 (.iload_n 2) 1 = true ∧ fdq cX3_often 7 (.invokestatic 89) 3 = true := by decide +kernel
theorem dX3_has_16 : decode cX3_has 16 = .ok (.aload_n 0, 1) := fdf dAb_154.1
theorem dX3_has_17 : decode cX3_has 17 = .ok (.iload_n 1, 1) := fdf dAb_154.2.1
theorem dX3_has_18 : decode cX3_has 18 = .ok (.invokevirtual 95, 3) := fdf dAb_154.2.2.1
theorem dX3_has_21 : decode cX3_has 21 = .ok (.iload_n 2, 1) := fdf dAb_154.2.2.2.1
theorem dX3_has_22 : decode cX3_has 22 = .ok (.invokestatic 115, 3) := fdf dAb_154.2.2.2.2.1
theorem dX3_has_25 : decode cX3_has 25 = .ok (.ifCond .lt 7, 3) := fdf dAb_154.2.2.2.2.2.1
theorem dX3_has_28 : decode cX3_has 28 = .ok (.iconst 1, 1) := fdf dAb_154.2.2.2.2.2.2.1
theorem dX3_has_29 : decode cX3_has 29 = .ok (.goto 4, 3) := fdf dAb_154.2.2.2.2.2.2.2.1
theorem dX3_has_32 : decode cX3_has 32 = .ok (.iconst 0, 1) := fdf dAb_154.2.2.2.2.2.2.2.2.1
theorem dX3_has_33 : decode cX3_has 33 = .ok (.ireturn, 1) := fdf dAb_154.2.2.2.2.2.2.2.2.2.1
theorem dX3_often_0 : decode cX3_often 0 = .ok (.aload_n 0, 1) := fdf dAb_154.2.2.2.2.2.2.2.2.2.2.1
theorem dX3_often_1 : decode cX3_often 1 = .ok (.aload_n 0, 1) := fdf dAb_154.2.2.2.2.2.2.2.2.2.2.2.1
theorem dX3_often_2 : decode cX3_often 2 = .ok (.iload_n 1, 1) := fdf dAb_154.2.2.2.2.2.2.2.2.2.2.2.2.1
theorem dX3_often_3 : decode cX3_often 3 = .ok (.invokevirtual 32, 3) := fdf dAb_154.2.2.2.2.2.2.2.2.2.2.2.2.2.1
theorem dX3_often_6 : decode cX3_often 6 = .ok (.iload_n 2, 1) := fdf dAb_154.2.2.2.2.2.2.2.2.2.2.2.2.2.2.1
theorem dX3_often_7 : decode cX3_often 7 = .ok (.invokestatic 89, 3) := fdf dAb_154.2.2.2.2.2.2.2.2.2.2.2.2.2.2.2
theorem dAb_155 : fdq cX3_often 10 (.invokevirtual 81) 3 = true ∧ fdq cX3_often 13 (.ifCond .eq 7) 3 = true ∧ fdq cX3_often 16 (.iconst 0) 1 = true ∧ fdq cX3_often 17 (.goto 12) 3 = true ∧ fdq cX3_often 20 (.aload_n 0) 1 = true ∧ fdq cX3_often 21 (.iload_n 1) 1 = true ∧ fdq cX3_often 22 (.invokevirtual 95) 3 = true ∧ fdq cX3_often 25 (.iload_n 2) 1 = true ∧ fdq cX3_often 26 (.invokestatic 119) 3 = true ∧ fdq cX3_often 29 (.ireturn) 1 = true ∧ fdq cX3_shared 0 (.iconst 0) 1 = true ∧ fdq cX3_shared 1 (.istore_n 3) 1 = true ∧ fdq cX3_shared 2 (.aload_n 0) 1 = true ∧ fdq cX3_shared 3 (.iload_n 1) 1 = true ∧ fdq cX3_shared 4 (.invokevirtual 95) 3 = true ∧ fdq cX3_shared 7 (.astore 4) 2 = true := by decide +kernel
theorem dX3_often_10 : decode cX3_often 10 = .ok (.invokevirtual 81, 3) := fdf dAb_155.1
theorem dX3_often_13 : decode cX3_often 13 = .ok (.ifCond .eq 7, 3) := fdf dAb_155.2.1
theorem dX3_often_16 : decode cX3_often 16 = .ok (.iconst 0, 1) := fdf dAb_155.2.2.1
theorem dX3_often_17 : decode cX3_often 17 = .ok (.goto 12, 3) := fdf dAb_155.2.2.2.1
theorem dX3_often_20 : decode cX3_often 20 = .ok (.aload_n 0, 1) := fdf dAb_155.2.2.2.2.1
theorem dX3_often_21 : decode cX3_often 21 = .ok (.iload_n 1, 1) := fdf dAb_155.2.2.2.2.2.1
theorem dX3_often_22 : decode cX3_often 22 = .ok (.invokevirtual 95, 3) := fdf dAb_155.2.2.2.2.2.2.1
theorem dX3_often_25 : decode cX3_often 25 = .ok (.iload_n 2, 1) := fdf dAb_155.2.2.2.2.2.2.2.1
theorem dX3_often_26 : decode cX3_often 26 = .ok (.invokestatic 119, 3) := fdf dAb_155.2.2.2.2.2.2.2.2.1
theorem dX3_often_29 : decode cX3_often 29 = .ok (.ireturn, 1) := fdf dAb_155.2.2.2.2.2.2.2.2.2.1
theorem dX3_shared_0 : decode cX3_shared 0 = .ok (.iconst 0, 1) := fdf dAb_155.2.2.2.2.2.2.2.2.2.2.1
theorem dX3_shared_1 : decode cX3_shared 1 = .ok (.istore_n 3, 1) := fdf dAb_155.2.2.2.2.2.2.2.2.2.2.2.1
theorem dX3_shared_2 : decode cX3_shared 2 = .ok (.aload_n 0, 1) := fdf dAb_155.2.2.2.2.2.2.2.2.2.2.2.2.1
theorem dX3_shared_3 : decode cX3_shared 3 = .ok (.iload_n 1, 1) := fdf dAb_155.2.2.2.2.2.2.2.2.2.2.2.2.2.1
theorem dX3_shared_4 : decode cX3_shared 4 = .ok (.invokevirtual 95, 3) := fdf dAb_155.2.2.2.2.2.2.2.2.2.2.2.2.2.2.1
theorem dX3_shared_7 : decode cX3_shared 7 = .ok (.astore 4, 2) := fdf dAb_155.2.2.2.2.2.2.2.2.2.2.2.2.2.2.2
theorem dAb_156 : fdq cX3_shared 9 (.aload 4) 2 = true ∧ fdq cX3_shared 11 (.arraylength) 1 = true ∧ fdq cX3_shared 12 (.istore 5) 2 = true ∧ fdq cX3_shared 14 (.iconst 0) 1 = true ∧ fdq cX3_shared 15 (.istore 6) 2 = true ∧ fdq cX3_shared 17 (.iload 6) 2 = true ∧ fdq cX3_shared 19 (.iload 5) 2 = true ∧ fdq cX3_shared 21 (.if_icmp .ge 40) 3 = true ∧ fdq cX3_shared 24 (.aload 4) 2 = true ∧ fdq cX3_shared 26 (.iload 6) 2 = true ∧ fdq cX3_shared 28 (.iaload) 1 = true ∧ fdq cX3_shared 29 (.istore 7) 2 = true ∧ fdq cX3_shared 31 (.iload_n 3) 1 = true ∧ fdq cX3_shared 32 (.aload_n 0) 1 = true ∧ fdq cX3_shared 33 (.iload_n 2) 1 = true ∧ fdq cX3_shared 34 (.invokevirtual 95) 3 = true := by decide +kernel
theorem dX3_shared_9 : decode cX3_shared 9 = .ok (.aload 4, 2) := fdf dAb_156.1
theorem dX3_shared_11 : decode cX3_shared 11 = .ok (.arraylength, 1) := fdf dAb_156.2.1
theorem dX3_shared_12 : decode cX3_shared 12 = .ok (.istore 5, 2) := fdf dAb_156.2.2.1
theorem dX3_shared_14 : decode cX3_shared 14 = .ok (.iconst 0, 1) := fdf dAb_156.2.2.2.1
theorem dX3_shared_15 : decode cX3_shared 15 = .ok (.istore 6, 2) := fdf dAb_156.2.2.2.2.1
theorem dX3_shared_17 : decode cX3_shared 17 = .ok (.iload 6, 2) := fdf dAb_156.2.2.2.2.2.1
theorem dX3_shared_19 : decode cX3_shared 19 = .ok (.iload 5, 2) := fdf dAb_156.2.2.2.2.2.2.1
theorem dX3_shared_21 : decode cX3_shared 21 = .ok (.if_icmp .ge 40, 3) := fdf dAb_156.2.2.2.2.2.2.2.1
theorem dX3_shared_24 : decode cX3_shared 24 = .ok (.aload 4, 2) := fdf dAb_156.2.2.2.2.2.2.2.2.1
theorem dX3_shared_26 : decode cX3_shared 26 = .ok (.iload 6, 2) := fdf dAb_156.2.2.2.2.2.2.2.2.2.1
theorem dX3_shared_28 : decode cX3_shared 28 = .ok (.iaload, 1) := fdf dAb_156.2.2.2.2.2.2.2.2.2.2.1
theorem dX3_shared_29 : decode cX3_shared 29 = .ok (.istore 7, 2) := fdf dAb_156.2.2.2.2.2.2.2.2.2.2.2.1
theorem dX3_shared_31 : decode cX3_shared 31 = .ok (.iload_n 3, 1) := fdf dAb_156.2.2.2.2.2.2.2.2.2.2.2.2.1
theorem dX3_shared_32 : decode cX3_shared 32 = .ok (.aload_n 0, 1) := fdf dAb_156.2.2.2.2.2.2.2.2.2.2.2.2.2.1
theorem dX3_shared_33 : decode cX3_shared 33 = .ok (.iload_n 2, 1) := fdf dAb_156.2.2.2.2.2.2.2.2.2.2.2.2.2.2.1
theorem dX3_shared_34 : decode cX3_shared 34 = .ok (.invokevirtual 95, 3) := fdf dAb_156.2.2.2.2.2.2.2.2.2.2.2.2.2.2.2
theorem dAb_157 : fdq cX3_shared 37 (.iload 7) 2 = true ∧ fdq cX3_shared 39 (.invokestatic 119) 3 = true ∧ fdq cX3_shared 42 (.ifCond .le 7) 3 = true ∧ fdq cX3_shared 45 (.iconst 1) 1 = true ∧ fdq cX3_shared 46 (.goto 4) 3 = true ∧ fdq cX3_shared 49 (.iconst 0) 1 = true ∧ fdq cX3_shared 50 (.invokestatic 59) 3 = true ∧ fdq cX3_shared 53 (.iadd) 1 = true ∧ fdq cX3_shared 54 (.istore_n 3) 1 = true ∧ fdq cX3_shared 55 (.iinc 6 1) 3 = true ∧ fdq cX3_shared 58 (.goto (-41)) 3 = true ∧ fdq cX3_shared 61 (.iload_n 3) 1 = true ∧ fdq cX3_shared 62 (.ireturn) 1 = true ∧ fdq cX3_isNoPair 0 (.aload_n 0) 1 = true ∧ fdq cX3_isNoPair 1 (.iload_n 1) 1 = true ∧ fdq cX3_isNoPair 2 (.invokevirtual 32) 3 = true := by decide +kernel
theorem dX3_shared_37 : decode cX3_shared 37 = .ok (.iload 7, 2) := fdf dAb_157.1
theorem dX3_shared_39 : decode cX3_shared 39 = .ok (.invokestatic 119, 3) := fdf dAb_157.2.1
theorem dX3_shared_42 : decode cX3_shared 42 = .ok (.ifCond .le 7, 3) := fdf dAb_157.2.2.1
theorem dX3_shared_45 : decode cX3_shared 45 = .ok (.iconst 1, 1) := fdf dAb_157.2.2.2.1
theorem dX3_shared_46 : decode cX3_shared 46 = .ok (.goto 4, 3) := fdf dAb_157.2.2.2.2.1
theorem dX3_shared_49 : decode cX3_shared 49 = .ok (.iconst 0, 1) := fdf dAb_157.2.2.2.2.2.1
theorem dX3_shared_50 : decode cX3_shared 50 = .ok (.invokestatic 59, 3) := fdf dAb_157.2.2.2.2.2.2.1
theorem dX3_shared_53 : decode cX3_shared 53 = .ok (.iadd, 1) := fdf dAb_157.2.2.2.2.2.2.2.1
theorem dX3_shared_54 : decode cX3_shared 54 = .ok (.istore_n 3, 1) := fdf dAb_157.2.2.2.2.2.2.2.2.1
theorem dX3_shared_55 : decode cX3_shared 55 = .ok (.iinc 6 1, 3) := fdf dAb_157.2.2.2.2.2.2.2.2.2.1
theorem dX3_shared_58 : decode cX3_shared 58 = .ok (.goto (-41), 3) := fdf dAb_157.2.2.2.2.2.2.2.2.2.2.1
theorem dX3_shared_61 : decode cX3_shared 61 = .ok (.iload_n 3, 1) := fdf dAb_157.2.2.2.2.2.2.2.2.2.2.2.1
theorem dX3_shared_62 : decode cX3_shared 62 = .ok (.ireturn, 1) := fdf dAb_157.2.2.2.2.2.2.2.2.2.2.2.2.1
theorem dX3_isNoPair_0 : decode cX3_isNoPair 0 = .ok (.aload_n 0, 1) := fdf dAb_157.2.2.2.2.2.2.2.2.2.2.2.2.2.1
theorem dX3_isNoPair_1 : decode cX3_isNoPair 1 = .ok (.iload_n 1, 1) := fdf dAb_157.2.2.2.2.2.2.2.2.2.2.2.2.2.2.1
theorem dX3_isNoPair_2 : decode cX3_isNoPair 2 = .ok (.invokevirtual 32, 3) := fdf dAb_157.2.2.2.2.2.2.2.2.2.2.2.2.2.2.2
theorem dAb_158 : fdq cX3_isNoPair 5 (.ifCond .ne 11) 3 = true ∧ fdq cX3_isNoPair 8 (.aload_n 0) 1 = true ∧ fdq cX3_isNoPair 9 (.iload_n 2) 1 = true ∧ fdq cX3_isNoPair 10 (.invokevirtual 32) 3 = true ∧ fdq cX3_isNoPair 13 (.ifCond .eq 7) 3 = true ∧ fdq cX3_isNoPair 16 (.iconst 1) 1 = true ∧ fdq cX3_isNoPair 17 (.goto 4) 3 = true ∧ fdq cX3_isNoPair 20 (.iconst 0) 1 = true ∧ fdq cX3_isNoPair 21 (.ireturn) 1 = true ∧ fdq cX3_hasAll 0 (.aload_n 0) 1 = true ∧ fdq cX3_hasAll 1 (.aload_n 0) 1 = true ∧ fdq cX3_hasAll 2 (.iload_n 1) 1 = true ∧ fdq cX3_hasAll 3 (.iload_n 2) 1 = true ∧ fdq cX3_hasAll 4 (.invokevirtual 122) 3 = true ∧ fdq cX3_hasAll 7 (.iconst 0) 1 = true ∧ fdq cX3_hasAll 8 (.invokevirtual 81) 3 = true := by decide +kernel
theorem dX3_isNoPair_5 : decode cX3_isNoPair 5 = .ok (.ifCond .ne 11, 3) := fdf dAb_158.1
theorem dX3_isNoPair_8 : decode cX3_isNoPair 8 = .ok (.aload_n 0, 1) := fdf dAb_158.2.1
theorem dX3_isNoPair_9 : decode cX3_isNoPair 9 = .ok (.iload_n 2, 1) := fdf dAb_158.2.2.1
theorem dX3_isNoPair_10 : decode cX3_isNoPair 10 = .ok (.invokevirtual 32, 3) := fdf dAb_158.2.2.2.1
theorem dX3_isNoPair_13 : decode cX3_isNoPair 13 = .ok (.ifCond .eq 7, 3) := fdf dAb_158.2.2.2.2.1
theorem dX3_isNoPair_16 : decode cX3_isNoPair 16 = .ok (.iconst 1, 1) := fdf dAb_158.2.2.2.2.2.1
theorem dX3_isNoPair_17 : decode cX3_isNoPair 17 = .ok (.goto 4, 3) := fdf dAb_158.2.2.2.2.2.2.1
theorem dX3_isNoPair_20 : decode cX3_isNoPair 20 = .ok (.iconst 0, 1) := fdf dAb_158.2.2.2.2.2.2.2.1
theorem dX3_isNoPair_21 : decode cX3_isNoPair 21 = .ok (.ireturn, 1) := fdf dAb_158.2.2.2.2.2.2.2.2.1
theorem dX3_hasAll_0 : decode cX3_hasAll 0 = .ok (.aload_n 0, 1) := fdf dAb_158.2.2.2.2.2.2.2.2.2.1
theorem dX3_hasAll_1 : decode cX3_hasAll 1 = .ok (.aload_n 0, 1) := fdf dAb_158.2.2.2.2.2.2.2.2.2.2.1
theorem dX3_hasAll_2 : decode cX3_hasAll 2 = .ok (.iload_n 1, 1) := fdf dAb_158.2.2.2.2.2.2.2.2.2.2.2.1
theorem dX3_hasAll_3 : decode cX3_hasAll 3 = .ok (.iload_n 2, 1) := fdf dAb_158.2.2.2.2.2.2.2.2.2.2.2.2.1
theorem dX3_hasAll_4 : decode cX3_hasAll 4 = .ok (.invokevirtual 122, 3) := fdf dAb_158.2.2.2.2.2.2.2.2.2.2.2.2.2.1
theorem dX3_hasAll_7 : decode cX3_hasAll 7 = .ok (.iconst 0, 1) := fdf dAb_158.2.2.2.2.2.2.2.2.2.2.2.2.2.2.1
theorem dX3_hasAll_8 : decode cX3_hasAll 8 = .ok (.invokevirtual 81, 3) := fdf dAb_158.2.2.2.2.2.2.2.2.2.2.2.2.2.2.2
theorem dAb_159 : fdq cX3_hasAll 11 (.ifCond .ne 22) 3 = true ∧ fdq cX3_hasAll 14 (.aload_n 0) 1 = true ∧ fdq cX3_hasAll 15 (.iload_n 2) 1 = true ∧ fdq cX3_hasAll 16 (.iload_n 1) 1 = true ∧ fdq cX3_hasAll 17 (.invokevirtual 125) 3 = true ∧ fdq cX3_hasAll 20 (.aload_n 0) 1 = true ∧ fdq cX3_hasAll 21 (.getfield 21) 3 = true ∧ fdq cX3_hasAll 24 (.iload_n 2) 1 = true ∧ fdq cX3_hasAll 25 (.iaload) 1 = true ∧ fdq cX3_hasAll 26 (.if_icmp .ne 7) 3 = true ∧ fdq cX3_hasAll 29 (.iconst 1) 1 = true ∧ fdq cX3_hasAll 30 (.goto 4) 3 = true ∧ fdq cX3_hasAll 33 (.iconst 0) 1 = true ∧ fdq cX3_hasAll 34 (.ireturn) 1 = true ∧ fdq cX3_areApart 0 (.aload_n 0) 1 = true ∧ fdq cX3_areApart 1 (.aload_n 0) 1 = true := by decide +kernel
theorem dX3_hasAll_11 : decode cX3_hasAll 11 = .ok (.ifCond .ne 22, 3) := fdf dAb_159.1
theorem dX3_hasAll_14 : decode cX3_hasAll 14 = .ok (.aload_n 0, 1) := fdf dAb_159.2.1
theorem dX3_hasAll_15 : decode cX3_hasAll 15 = .ok (.iload_n 2, 1) := fdf dAb_159.2.2.1
theorem dX3_hasAll_16 : decode cX3_hasAll 16 = .ok (.iload_n 1, 1) := fdf dAb_159.2.2.2.1
theorem dX3_hasAll_17 : decode cX3_hasAll 17 = .ok (.invokevirtual 125, 3) := fdf dAb_159.2.2.2.2.1
theorem dX3_hasAll_20 : decode cX3_hasAll 20 = .ok (.aload_n 0, 1) := fdf dAb_159.2.2.2.2.2.1
theorem dX3_hasAll_21 : decode cX3_hasAll 21 = .ok (.getfield 21, 3) := fdf dAb_159.2.2.2.2.2.2.1
theorem dX3_hasAll_24 : decode cX3_hasAll 24 = .ok (.iload_n 2, 1) := fdf dAb_159.2.2.2.2.2.2.2.1
theorem dX3_hasAll_25 : decode cX3_hasAll 25 = .ok (.iaload, 1) := fdf dAb_159.2.2.2.2.2.2.2.2.1
theorem dX3_hasAll_26 : decode cX3_hasAll 26 = .ok (.if_icmp .ne 7, 3) := fdf dAb_159.2.2.2.2.2.2.2.2.2.1
theorem dX3_hasAll_29 : decode cX3_hasAll 29 = .ok (.iconst 1, 1) := fdf dAb_159.2.2.2.2.2.2.2.2.2.2.1
theorem dX3_hasAll_30 : decode cX3_hasAll 30 = .ok (.goto 4, 3) := fdf dAb_159.2.2.2.2.2.2.2.2.2.2.2.1
theorem dX3_hasAll_33 : decode cX3_hasAll 33 = .ok (.iconst 0, 1) := fdf dAb_159.2.2.2.2.2.2.2.2.2.2.2.2.1
theorem dX3_hasAll_34 : decode cX3_hasAll 34 = .ok (.ireturn, 1) := fdf dAb_159.2.2.2.2.2.2.2.2.2.2.2.2.2.1
theorem dX3_areApart_0 : decode cX3_areApart 0 = .ok (.aload_n 0, 1) := fdf dAb_159.2.2.2.2.2.2.2.2.2.2.2.2.2.2.1
theorem dX3_areApart_1 : decode cX3_areApart 1 = .ok (.aload_n 0, 1) := fdf dAb_159.2.2.2.2.2.2.2.2.2.2.2.2.2.2.2
theorem dAb_160 : fdq cX3_areApart 2 (.iload_n 1) 1 = true ∧ fdq cX3_areApart 3 (.iload_n 2) 1 = true ∧ fdq cX3_areApart 4 (.invokevirtual 122) 3 = true ∧ fdq cX3_areApart 7 (.iconst 0) 1 = true ∧ fdq cX3_areApart 8 (.invokevirtual 81) 3 = true ∧ fdq cX3_areApart 11 (.ifCond .ne 16) 3 = true ∧ fdq cX3_areApart 14 (.aload_n 0) 1 = true ∧ fdq cX3_areApart 15 (.iload_n 1) 1 = true ∧ fdq cX3_areApart 16 (.iload_n 2) 1 = true ∧ fdq cX3_areApart 17 (.invokevirtual 125) 3 = true ∧ fdq cX3_areApart 20 (.ifCond .ne 7) 3 = true ∧ fdq cX3_areApart 23 (.iconst 1) 1 = true ∧ fdq cX3_areApart 24 (.goto 4) 3 = true ∧ fdq cX3_areApart 27 (.iconst 0) 1 = true ∧ fdq cX3_areApart 28 (.ireturn) 1 = true ∧ fdq cX3_isAt 0 (.iload_n 1) 1 = true := by decide +kernel
theorem dX3_areApart_2 : decode cX3_areApart 2 = .ok (.iload_n 1, 1) := fdf dAb_160.1
theorem dX3_areApart_3 : decode cX3_areApart 3 = .ok (.iload_n 2, 1) := fdf dAb_160.2.1
theorem dX3_areApart_4 : decode cX3_areApart 4 = .ok (.invokevirtual 122, 3) := fdf dAb_160.2.2.1
theorem dX3_areApart_7 : decode cX3_areApart 7 = .ok (.iconst 0, 1) := fdf dAb_160.2.2.2.1
theorem dX3_areApart_8 : decode cX3_areApart 8 = .ok (.invokevirtual 81, 3) := fdf dAb_160.2.2.2.2.1
theorem dX3_areApart_11 : decode cX3_areApart 11 = .ok (.ifCond .ne 16, 3) := fdf dAb_160.2.2.2.2.2.1
theorem dX3_areApart_14 : decode cX3_areApart 14 = .ok (.aload_n 0, 1) := fdf dAb_160.2.2.2.2.2.2.1
theorem dX3_areApart_15 : decode cX3_areApart 15 = .ok (.iload_n 1, 1) := fdf dAb_160.2.2.2.2.2.2.2.1
theorem dX3_areApart_16 : decode cX3_areApart 16 = .ok (.iload_n 2, 1) := fdf dAb_160.2.2.2.2.2.2.2.2.1
theorem dX3_areApart_17 : decode cX3_areApart 17 = .ok (.invokevirtual 125, 3) := fdf dAb_160.2.2.2.2.2.2.2.2.2.1
theorem dX3_areApart_20 : decode cX3_areApart 20 = .ok (.ifCond .ne 7, 3) := fdf dAb_160.2.2.2.2.2.2.2.2.2.2.1
theorem dX3_areApart_23 : decode cX3_areApart 23 = .ok (.iconst 1, 1) := fdf dAb_160.2.2.2.2.2.2.2.2.2.2.2.1
theorem dX3_areApart_24 : decode cX3_areApart 24 = .ok (.goto 4, 3) := fdf dAb_160.2.2.2.2.2.2.2.2.2.2.2.2.1
theorem dX3_areApart_27 : decode cX3_areApart 27 = .ok (.iconst 0, 1) := fdf dAb_160.2.2.2.2.2.2.2.2.2.2.2.2.2.1
theorem dX3_areApart_28 : decode cX3_areApart 28 = .ok (.ireturn, 1) := fdf dAb_160.2.2.2.2.2.2.2.2.2.2.2.2.2.2.1
theorem dX3_isAt_0 : decode cX3_isAt 0 = .ok (.iload_n 1, 1) := fdf dAb_160.2.2.2.2.2.2.2.2.2.2.2.2.2.2.2
theorem dAb_161 : fdq cX3_isAt 1 (.aload_n 2) 1 = true ∧ fdq cX3_isAt 2 (.arraylength) 1 = true ∧ fdq cX3_isAt 3 (.iadd) 1 = true ∧ fdq cX3_isAt 4 (.aload_n 0) 1 = true ∧ fdq cX3_isAt 5 (.arraylength) 1 = true ∧ fdq cX3_isAt 6 (.if_icmp .gt 7) 3 = true ∧ fdq cX3_isAt 9 (.iconst 1) 1 = true ∧ fdq cX3_isAt 10 (.goto 4) 3 = true ∧ fdq cX3_isAt 13 (.iconst 0) 1 = true ∧ fdq cX3_isAt 14 (.istore_n 3) 1 = true ∧ fdq cX3_isAt 15 (.iconst 0) 1 = true ∧ fdq cX3_isAt 16 (.istore 4) 2 = true ∧ fdq cX3_isAt 18 (.iload 4) 2 = true ∧ fdq cX3_isAt 20 (.aload_n 2) 1 = true ∧ fdq cX3_isAt 21 (.arraylength) 1 = true ∧ fdq cX3_isAt 22 (.if_icmp .ge 32) 3 = true := by decide +kernel
theorem dX3_isAt_1 : decode cX3_isAt 1 = .ok (.aload_n 2, 1) := fdf dAb_161.1
theorem dX3_isAt_2 : decode cX3_isAt 2 = .ok (.arraylength, 1) := fdf dAb_161.2.1
theorem dX3_isAt_3 : decode cX3_isAt 3 = .ok (.iadd, 1) := fdf dAb_161.2.2.1
theorem dX3_isAt_4 : decode cX3_isAt 4 = .ok (.aload_n 0, 1) := fdf dAb_161.2.2.2.1
theorem dX3_isAt_5 : decode cX3_isAt 5 = .ok (.arraylength, 1) := fdf dAb_161.2.2.2.2.1
theorem dX3_isAt_6 : decode cX3_isAt 6 = .ok (.if_icmp .gt 7, 3) := fdf dAb_161.2.2.2.2.2.1
theorem dX3_isAt_9 : decode cX3_isAt 9 = .ok (.iconst 1, 1) := fdf dAb_161.2.2.2.2.2.2.1
theorem dX3_isAt_10 : decode cX3_isAt 10 = .ok (.goto 4, 3) := fdf dAb_161.2.2.2.2.2.2.2.1
theorem dX3_isAt_13 : decode cX3_isAt 13 = .ok (.iconst 0, 1) := fdf dAb_161.2.2.2.2.2.2.2.2.1
theorem dX3_isAt_14 : decode cX3_isAt 14 = .ok (.istore_n 3, 1) := fdf dAb_161.2.2.2.2.2.2.2.2.2.1
theorem dX3_isAt_15 : decode cX3_isAt 15 = .ok (.iconst 0, 1) := fdf dAb_161.2.2.2.2.2.2.2.2.2.2.1
theorem dX3_isAt_16 : decode cX3_isAt 16 = .ok (.istore 4, 2) := fdf dAb_161.2.2.2.2.2.2.2.2.2.2.2.1
theorem dX3_isAt_18 : decode cX3_isAt 18 = .ok (.iload 4, 2) := fdf dAb_161.2.2.2.2.2.2.2.2.2.2.2.2.1
theorem dX3_isAt_20 : decode cX3_isAt 20 = .ok (.aload_n 2, 1) := fdf dAb_161.2.2.2.2.2.2.2.2.2.2.2.2.2.1
theorem dX3_isAt_21 : decode cX3_isAt 21 = .ok (.arraylength, 1) := fdf dAb_161.2.2.2.2.2.2.2.2.2.2.2.2.2.2.1
theorem dX3_isAt_22 : decode cX3_isAt 22 = .ok (.if_icmp .ge 32, 3) := fdf dAb_161.2.2.2.2.2.2.2.2.2.2.2.2.2.2.2
theorem dAb_162 : fdq cX3_isAt 25 (.iload_n 3) 1 = true ∧ fdq cX3_isAt 26 (.ifCond .eq 28) 3 = true ∧ fdq cX3_isAt 29 (.aload_n 0) 1 = true ∧ fdq cX3_isAt 30 (.iload_n 1) 1 = true ∧ fdq cX3_isAt 31 (.iload 4) 2 = true ∧ fdq cX3_isAt 33 (.iadd) 1 = true ∧ fdq cX3_isAt 34 (.iaload) 1 = true ∧ fdq cX3_isAt 35 (.aload_n 2) 1 = true ∧ fdq cX3_isAt 36 (.iload 4) 2 = true ∧ fdq cX3_isAt 38 (.iaload) 1 = true ∧ fdq cX3_isAt 39 (.if_icmp .ne 7) 3 = true ∧ fdq cX3_isAt 42 (.iconst 1) 1 = true ∧ fdq cX3_isAt 43 (.goto 4) 3 = true ∧ fdq cX3_isAt 46 (.iconst 0) 1 = true ∧ fdq cX3_isAt 47 (.istore_n 3) 1 = true ∧ fdq cX3_isAt 48 (.iinc 4 1) 3 = true := by decide +kernel
theorem dX3_isAt_25 : decode cX3_isAt 25 = .ok (.iload_n 3, 1) := fdf dAb_162.1
theorem dX3_isAt_26 : decode cX3_isAt 26 = .ok (.ifCond .eq 28, 3) := fdf dAb_162.2.1
theorem dX3_isAt_29 : decode cX3_isAt 29 = .ok (.aload_n 0, 1) := fdf dAb_162.2.2.1
theorem dX3_isAt_30 : decode cX3_isAt 30 = .ok (.iload_n 1, 1) := fdf dAb_162.2.2.2.1
theorem dX3_isAt_31 : decode cX3_isAt 31 = .ok (.iload 4, 2) := fdf dAb_162.2.2.2.2.1
theorem dX3_isAt_33 : decode cX3_isAt 33 = .ok (.iadd, 1) := fdf dAb_162.2.2.2.2.2.1
theorem dX3_isAt_34 : decode cX3_isAt 34 = .ok (.iaload, 1) := fdf dAb_162.2.2.2.2.2.2.1
theorem dX3_isAt_35 : decode cX3_isAt 35 = .ok (.aload_n 2, 1) := fdf dAb_162.2.2.2.2.2.2.2.1
theorem dX3_isAt_36 : decode cX3_isAt 36 = .ok (.iload 4, 2) := fdf dAb_162.2.2.2.2.2.2.2.2.1
theorem dX3_isAt_38 : decode cX3_isAt 38 = .ok (.iaload, 1) := fdf dAb_162.2.2.2.2.2.2.2.2.2.1
theorem dX3_isAt_39 : decode cX3_isAt 39 = .ok (.if_icmp .ne 7, 3) := fdf dAb_162.2.2.2.2.2.2.2.2.2.2.1
theorem dX3_isAt_42 : decode cX3_isAt 42 = .ok (.iconst 1, 1) := fdf dAb_162.2.2.2.2.2.2.2.2.2.2.2.1
theorem dX3_isAt_43 : decode cX3_isAt 43 = .ok (.goto 4, 3) := fdf dAb_162.2.2.2.2.2.2.2.2.2.2.2.2.1
theorem dX3_isAt_46 : decode cX3_isAt 46 = .ok (.iconst 0, 1) := fdf dAb_162.2.2.2.2.2.2.2.2.2.2.2.2.2.1
theorem dX3_isAt_47 : decode cX3_isAt 47 = .ok (.istore_n 3, 1) := fdf dAb_162.2.2.2.2.2.2.2.2.2.2.2.2.2.2.1
theorem dX3_isAt_48 : decode cX3_isAt 48 = .ok (.iinc 4 1, 3) := fdf dAb_162.2.2.2.2.2.2.2.2.2.2.2.2.2.2.2
theorem dAb_163 : fdq cX3_isAt 51 (.goto (-33)) 3 = true ∧ fdq cX3_isAt 54 (.iload_n 3) 1 = true ∧ fdq cX3_isAt 55 (.ireturn) 1 = true ∧ fdq cX3_indexOfAll 0 (.aload_n 0) 1 = true ∧ fdq cX3_indexOfAll 1 (.aload_n 0) 1 = true ∧ fdq cX3_indexOfAll 2 (.iload_n 1) 1 = true ∧ fdq cX3_indexOfAll 3 (.iload_n 2) 1 = true ∧ fdq cX3_indexOfAll 4 (.invokevirtual 122) 3 = true ∧ fdq cX3_indexOfAll 7 (.iconst 0) 1 = true ∧ fdq cX3_indexOfAll 8 (.invokevirtual 81) 3 = true ∧ fdq cX3_indexOfAll 11 (.ifCond .eq 5) 3 = true ∧ fdq cX3_indexOfAll 14 (.iconst 0) 1 = true ∧ fdq cX3_indexOfAll 15 (.ireturn) 1 = true ∧ fdq cX3_indexOfAll 16 (.iconst 0) 1 = true ∧ fdq cX3_indexOfAll 17 (.istore_n 3) 1 = true ∧ fdq cX3_indexOfAll 18 (.iload_n 3) 1 = true := by decide +kernel
theorem dX3_isAt_51 : decode cX3_isAt 51 = .ok (.goto (-33), 3) := fdf dAb_163.1
theorem dX3_isAt_54 : decode cX3_isAt 54 = .ok (.iload_n 3, 1) := fdf dAb_163.2.1
theorem dX3_isAt_55 : decode cX3_isAt 55 = .ok (.ireturn, 1) := fdf dAb_163.2.2.1
theorem dX3_indexOfAll_0 : decode cX3_indexOfAll 0 = .ok (.aload_n 0, 1) := fdf dAb_163.2.2.2.1
theorem dX3_indexOfAll_1 : decode cX3_indexOfAll 1 = .ok (.aload_n 0, 1) := fdf dAb_163.2.2.2.2.1
theorem dX3_indexOfAll_2 : decode cX3_indexOfAll 2 = .ok (.iload_n 1, 1) := fdf dAb_163.2.2.2.2.2.1
theorem dX3_indexOfAll_3 : decode cX3_indexOfAll 3 = .ok (.iload_n 2, 1) := fdf dAb_163.2.2.2.2.2.2.1
theorem dX3_indexOfAll_4 : decode cX3_indexOfAll 4 = .ok (.invokevirtual 122, 3) := fdf dAb_163.2.2.2.2.2.2.2.1
theorem dX3_indexOfAll_7 : decode cX3_indexOfAll 7 = .ok (.iconst 0, 1) := fdf dAb_163.2.2.2.2.2.2.2.2.1
theorem dX3_indexOfAll_8 : decode cX3_indexOfAll 8 = .ok (.invokevirtual 81, 3) := fdf dAb_163.2.2.2.2.2.2.2.2.2.1
theorem dX3_indexOfAll_11 : decode cX3_indexOfAll 11 = .ok (.ifCond .eq 5, 3) := fdf dAb_163.2.2.2.2.2.2.2.2.2.2.1
theorem dX3_indexOfAll_14 : decode cX3_indexOfAll 14 = .ok (.iconst 0, 1) := fdf dAb_163.2.2.2.2.2.2.2.2.2.2.2.1
theorem dX3_indexOfAll_15 : decode cX3_indexOfAll 15 = .ok (.ireturn, 1) := fdf dAb_163.2.2.2.2.2.2.2.2.2.2.2.2.1
theorem dX3_indexOfAll_16 : decode cX3_indexOfAll 16 = .ok (.iconst 0, 1) := fdf dAb_163.2.2.2.2.2.2.2.2.2.2.2.2.2.1
theorem dX3_indexOfAll_17 : decode cX3_indexOfAll 17 = .ok (.istore_n 3, 1) := fdf dAb_163.2.2.2.2.2.2.2.2.2.2.2.2.2.2.1
theorem dX3_indexOfAll_18 : decode cX3_indexOfAll 18 = .ok (.iload_n 3, 1) := fdf dAb_163.2.2.2.2.2.2.2.2.2.2.2.2.2.2.2
theorem dAb_164 : fdq cX3_indexOfAll 19 (.aload_n 0) 1 = true ∧ fdq cX3_indexOfAll 20 (.getfield 21) 3 = true ∧ fdq cX3_indexOfAll 23 (.iload_n 1) 1 = true ∧ fdq cX3_indexOfAll 24 (.iaload) 1 = true ∧ fdq cX3_indexOfAll 25 (.if_icmp .gt 28) 3 = true ∧ fdq cX3_indexOfAll 28 (.aload_n 0) 1 = true ∧ fdq cX3_indexOfAll 29 (.iload_n 1) 1 = true ∧ fdq cX3_indexOfAll 30 (.invokevirtual 95) 3 = true ∧ fdq cX3_indexOfAll 33 (.iload_n 3) 1 = true ∧ fdq cX3_indexOfAll 34 (.aload_n 0) 1 = true ∧ fdq cX3_indexOfAll 35 (.iload_n 2) 1 = true ∧ fdq cX3_indexOfAll 36 (.invokevirtual 95) 3 = true ∧ fdq cX3_indexOfAll 39 (.invokestatic 128) 3 = true ∧ fdq cX3_indexOfAll 42 (.ifCond .eq 5) 3 = true ∧ fdq cX3_indexOfAll 45 (.iload_n 3) 1 = true ∧ fdq cX3_indexOfAll 46 (.ireturn) 1 = true := by decide +kernel
theorem dX3_indexOfAll_19 : decode cX3_indexOfAll 19 = .ok (.aload_n 0, 1) := fdf dAb_164.1
theorem dX3_indexOfAll_20 : decode cX3_indexOfAll 20 = .ok (.getfield 21, 3) := fdf dAb_164.2.1
theorem dX3_indexOfAll_23 : decode cX3_indexOfAll 23 = .ok (.iload_n 1, 1) := fdf dAb_164.2.2.1
theorem dX3_indexOfAll_24 : decode cX3_indexOfAll 24 = .ok (.iaload, 1) := fdf dAb_164.2.2.2.1
theorem dX3_indexOfAll_25 : decode cX3_indexOfAll 25 = .ok (.if_icmp .gt 28, 3) := fdf dAb_164.2.2.2.2.1
theorem dX3_indexOfAll_28 : decode cX3_indexOfAll 28 = .ok (.aload_n 0, 1) := fdf dAb_164.2.2.2.2.2.1
theorem dX3_indexOfAll_29 : decode cX3_indexOfAll 29 = .ok (.iload_n 1, 1) := fdf dAb_164.2.2.2.2.2.2.1
theorem dX3_indexOfAll_30 : decode cX3_indexOfAll 30 = .ok (.invokevirtual 95, 3) := fdf dAb_164.2.2.2.2.2.2.2.1
theorem dX3_indexOfAll_33 : decode cX3_indexOfAll 33 = .ok (.iload_n 3, 1) := fdf dAb_164.2.2.2.2.2.2.2.2.1
theorem dX3_indexOfAll_34 : decode cX3_indexOfAll 34 = .ok (.aload_n 0, 1) := fdf dAb_164.2.2.2.2.2.2.2.2.2.1
theorem dX3_indexOfAll_35 : decode cX3_indexOfAll 35 = .ok (.iload_n 2, 1) := fdf dAb_164.2.2.2.2.2.2.2.2.2.2.1
theorem dX3_indexOfAll_36 : decode cX3_indexOfAll 36 = .ok (.invokevirtual 95, 3) := fdf dAb_164.2.2.2.2.2.2.2.2.2.2.2.1
theorem dX3_indexOfAll_39 : decode cX3_indexOfAll 39 = .ok (.invokestatic 128, 3) := fdf dAb_164.2.2.2.2.2.2.2.2.2.2.2.2.1
theorem dX3_indexOfAll_42 : decode cX3_indexOfAll 42 = .ok (.ifCond .eq 5, 3) := fdf dAb_164.2.2.2.2.2.2.2.2.2.2.2.2.2.1
theorem dX3_indexOfAll_45 : decode cX3_indexOfAll 45 = .ok (.iload_n 3, 1) := fdf dAb_164.2.2.2.2.2.2.2.2.2.2.2.2.2.2.1
theorem dX3_indexOfAll_46 : decode cX3_indexOfAll 46 = .ok (.ireturn, 1) := fdf dAb_164.2.2.2.2.2.2.2.2.2.2.2.2.2.2.2
theorem dAb_165 : fdq cX3_indexOfAll 47 (.iinc 3 1) 3 = true ∧ fdq cX3_indexOfAll 50 (.goto (-32)) 3 = true ∧ fdq cX3_indexOfAll 53 (.iconst (-1)) 1 = true ∧ fdq cX3_indexOfAll 54 (.ireturn) 1 = true ∧ fdq cX3_areEqual 0 (.aload_n 0) 1 = true ∧ fdq cX3_areEqual 1 (.aload_n 0) 1 = true ∧ fdq cX3_areEqual 2 (.iload_n 1) 1 = true ∧ fdq cX3_areEqual 3 (.iload_n 2) 1 = true ∧ fdq cX3_areEqual 4 (.invokevirtual 122) 3 = true ∧ fdq cX3_areEqual 7 (.iconst 0) 1 = true ∧ fdq cX3_areEqual 8 (.invokevirtual 81) 3 = true ∧ fdq cX3_areEqual 11 (.ifCond .ne 39) 3 = true ∧ fdq cX3_areEqual 14 (.aload_n 0) 1 = true ∧ fdq cX3_areEqual 15 (.getfield 21) 3 = true ∧ fdq cX3_areEqual 18 (.iload_n 1) 1 = true ∧ fdq cX3_areEqual 19 (.iaload) 1 = true := by decide +kernel
theorem dX3_indexOfAll_47 : decode cX3_indexOfAll 47 = .ok (.iinc 3 1, 3) := fdf dAb_165.1
theorem dX3_indexOfAll_50 : decode cX3_indexOfAll 50 = .ok (.goto (-32), 3) := fdf dAb_165.2.1
theorem dX3_indexOfAll_53 : decode cX3_indexOfAll 53 = .ok (.iconst (-1), 1) := fdf dAb_165.2.2.1
theorem dX3_indexOfAll_54 : decode cX3_indexOfAll 54 = .ok (.ireturn, 1) := fdf dAb_165.2.2.2.1
theorem dX3_areEqual_0 : decode cX3_areEqual 0 = .ok (.aload_n 0, 1) := fdf dAb_165.2.2.2.2.1
theorem dX3_areEqual_1 : decode cX3_areEqual 1 = .ok (.aload_n 0, 1) := fdf dAb_165.2.2.2.2.2.1
theorem dX3_areEqual_2 : decode cX3_areEqual 2 = .ok (.iload_n 1, 1) := fdf dAb_165.2.2.2.2.2.2.1
theorem dX3_areEqual_3 : decode cX3_areEqual 3 = .ok (.iload_n 2, 1) := fdf dAb_165.2.2.2.2.2.2.2.1
theorem dX3_areEqual_4 : decode cX3_areEqual 4 = .ok (.invokevirtual 122, 3) := fdf dAb_165.2.2.2.2.2.2.2.2.1
theorem dX3_areEqual_7 : decode cX3_areEqual 7 = .ok (.iconst 0, 1) := fdf dAb_165.2.2.2.2.2.2.2.2.2.1
theorem dX3_areEqual_8 : decode cX3_areEqual 8 = .ok (.invokevirtual 81, 3) := fdf dAb_165.2.2.2.2.2.2.2.2.2.2.1
theorem dX3_areEqual_11 : decode cX3_areEqual 11 = .ok (.ifCond .ne 39, 3) := fdf dAb_165.2.2.2.2.2.2.2.2.2.2.2.1
theorem dX3_areEqual_14 : decode cX3_areEqual 14 = .ok (.aload_n 0, 1) := fdf dAb_165.2.2.2.2.2.2.2.2.2.2.2.2.1
theorem dX3_areEqual_15 : decode cX3_areEqual 15 = .ok (.getfield 21, 3) := fdf dAb_165.2.2.2.2.2.2.2.2.2.2.2.2.2.1
theorem dX3_areEqual_18 : decode cX3_areEqual 18 = .ok (.iload_n 1, 1) := fdf dAb_165.2.2.2.2.2.2.2.2.2.2.2.2.2.2.1
theorem dX3_areEqual_19 : decode cX3_areEqual 19 = .ok (.iaload, 1) := fdf dAb_165.2.2.2.2.2.2.2.2.2.2.2.2.2.2.2
theorem dAb_166 : fdq cX3_areEqual 20 (.aload_n 0) 1 = true ∧ fdq cX3_areEqual 21 (.getfield 21) 3 = true ∧ fdq cX3_areEqual 24 (.iload_n 2) 1 = true ∧ fdq cX3_areEqual 25 (.iaload) 1 = true ∧ fdq cX3_areEqual 26 (.if_icmp .ne 24) 3 = true ∧ fdq cX3_areEqual 29 (.aload_n 0) 1 = true ∧ fdq cX3_areEqual 30 (.iload_n 1) 1 = true ∧ fdq cX3_areEqual 31 (.invokevirtual 95) 3 = true ∧ fdq cX3_areEqual 34 (.iconst 0) 1 = true ∧ fdq cX3_areEqual 35 (.aload_n 0) 1 = true ∧ fdq cX3_areEqual 36 (.iload_n 2) 1 = true ∧ fdq cX3_areEqual 37 (.invokevirtual 95) 3 = true ∧ fdq cX3_areEqual 40 (.invokestatic 128) 3 = true ∧ fdq cX3_areEqual 43 (.ifCond .eq 7) 3 = true ∧ fdq cX3_areEqual 46 (.iconst 1) 1 = true ∧ fdq cX3_areEqual 47 (.goto 4) 3 = true := by decide +kernel
theorem dX3_areEqual_20 : decode cX3_areEqual 20 = .ok (.aload_n 0, 1) := fdf dAb_166.1
theorem dX3_areEqual_21 : decode cX3_areEqual 21 = .ok (.getfield 21, 3) := fdf dAb_166.2.1
theorem dX3_areEqual_24 : decode cX3_areEqual 24 = .ok (.iload_n 2, 1) := fdf dAb_166.2.2.1
theorem dX3_areEqual_25 : decode cX3_areEqual 25 = .ok (.iaload, 1) := fdf dAb_166.2.2.2.1
theorem dX3_areEqual_26 : decode cX3_areEqual 26 = .ok (.if_icmp .ne 24, 3) := fdf dAb_166.2.2.2.2.1
theorem dX3_areEqual_29 : decode cX3_areEqual 29 = .ok (.aload_n 0, 1) := fdf dAb_166.2.2.2.2.2.1
theorem dX3_areEqual_30 : decode cX3_areEqual 30 = .ok (.iload_n 1, 1) := fdf dAb_166.2.2.2.2.2.2.1
theorem dX3_areEqual_31 : decode cX3_areEqual 31 = .ok (.invokevirtual 95, 3) := fdf dAb_166.2.2.2.2.2.2.2.1
theorem dX3_areEqual_34 : decode cX3_areEqual 34 = .ok (.iconst 0, 1) := fdf dAb_166.2.2.2.2.2.2.2.2.1
theorem dX3_areEqual_35 : decode cX3_areEqual 35 = .ok (.aload_n 0, 1) := fdf dAb_166.2.2.2.2.2.2.2.2.2.1
theorem dX3_areEqual_36 : decode cX3_areEqual 36 = .ok (.iload_n 2, 1) := fdf dAb_166.2.2.2.2.2.2.2.2.2.2.1
theorem dX3_areEqual_37 : decode cX3_areEqual 37 = .ok (.invokevirtual 95, 3) := fdf dAb_166.2.2.2.2.2.2.2.2.2.2.2.1
theorem dX3_areEqual_40 : decode cX3_areEqual 40 = .ok (.invokestatic 128, 3) := fdf dAb_166.2.2.2.2.2.2.2.2.2.2.2.2.1
theorem dX3_areEqual_43 : decode cX3_areEqual 43 = .ok (.ifCond .eq 7, 3) := fdf dAb_166.2.2.2.2.2.2.2.2.2.2.2.2.2.1
theorem dX3_areEqual_46 : decode cX3_areEqual 46 = .ok (.iconst 1, 1) := fdf dAb_166.2.2.2.2.2.2.2.2.2.2.2.2.2.2.1
theorem dX3_areEqual_47 : decode cX3_areEqual 47 = .ok (.goto 4, 3) := fdf dAb_166.2.2.2.2.2.2.2.2.2.2.2.2.2.2.2
theorem dAb_167 : fdq cX3_areEqual 50 (.iconst 0) 1 = true ∧ fdq cX3_areEqual 51 (.ireturn) 1 = true ∧ fdq cX3_codeNow 0 (.iconst 1) 1 = true ∧ fdq cX3_codeNow 1 (.istore_n 2) 1 = true ∧ fdq cX3_codeNow 2 (.aload_n 0) 1 = true ∧ fdq cX3_codeNow 3 (.iload_n 1) 1 = true ∧ fdq cX3_codeNow 4 (.invokevirtual 95) 3 = true ∧ fdq cX3_codeNow 7 (.astore_n 3) 1 = true ∧ fdq cX3_codeNow 8 (.aload_n 3) 1 = true ∧ fdq cX3_codeNow 9 (.arraylength) 1 = true ∧ fdq cX3_codeNow 10 (.istore 4) 2 = true ∧ fdq cX3_codeNow 12 (.iconst 0) 1 = true ∧ fdq cX3_codeNow 13 (.istore 5) 2 = true ∧ fdq cX3_codeNow 15 (.iload 5) 2 = true ∧ fdq cX3_codeNow 17 (.iload 4) 2 = true ∧ fdq cX3_codeNow 19 (.if_icmp .ge 35) 3 = true := by decide +kernel
theorem dX3_areEqual_50 : decode cX3_areEqual 50 = .ok (.iconst 0, 1) := fdf dAb_167.1
theorem dX3_areEqual_51 : decode cX3_areEqual 51 = .ok (.ireturn, 1) := fdf dAb_167.2.1
theorem dX3_codeNow_0 : decode cX3_codeNow 0 = .ok (.iconst 1, 1) := fdf dAb_167.2.2.1
theorem dX3_codeNow_1 : decode cX3_codeNow 1 = .ok (.istore_n 2, 1) := fdf dAb_167.2.2.2.1
theorem dX3_codeNow_2 : decode cX3_codeNow 2 = .ok (.aload_n 0, 1) := fdf dAb_167.2.2.2.2.1
theorem dX3_codeNow_3 : decode cX3_codeNow 3 = .ok (.iload_n 1, 1) := fdf dAb_167.2.2.2.2.2.1
theorem dX3_codeNow_4 : decode cX3_codeNow 4 = .ok (.invokevirtual 95, 3) := fdf dAb_167.2.2.2.2.2.2.1
theorem dX3_codeNow_7 : decode cX3_codeNow 7 = .ok (.astore_n 3, 1) := fdf dAb_167.2.2.2.2.2.2.2.1
theorem dX3_codeNow_8 : decode cX3_codeNow 8 = .ok (.aload_n 3, 1) := fdf dAb_167.2.2.2.2.2.2.2.2.1
theorem dX3_codeNow_9 : decode cX3_codeNow 9 = .ok (.arraylength, 1) := fdf dAb_167.2.2.2.2.2.2.2.2.2.1
theorem dX3_codeNow_10 : decode cX3_codeNow 10 = .ok (.istore 4, 2) := fdf dAb_167.2.2.2.2.2.2.2.2.2.2.1
theorem dX3_codeNow_12 : decode cX3_codeNow 12 = .ok (.iconst 0, 1) := fdf dAb_167.2.2.2.2.2.2.2.2.2.2.2.1
theorem dX3_codeNow_13 : decode cX3_codeNow 13 = .ok (.istore 5, 2) := fdf dAb_167.2.2.2.2.2.2.2.2.2.2.2.2.1
theorem dX3_codeNow_15 : decode cX3_codeNow 15 = .ok (.iload 5, 2) := fdf dAb_167.2.2.2.2.2.2.2.2.2.2.2.2.2.1
theorem dX3_codeNow_17 : decode cX3_codeNow 17 = .ok (.iload 4, 2) := fdf dAb_167.2.2.2.2.2.2.2.2.2.2.2.2.2.2.1
theorem dX3_codeNow_19 : decode cX3_codeNow 19 = .ok (.if_icmp .ge 35, 3) := fdf dAb_167.2.2.2.2.2.2.2.2.2.2.2.2.2.2.2
theorem dAb_168 : fdq cX3_codeNow 22 (.aload_n 3) 1 = true ∧ fdq cX3_codeNow 23 (.iload 5) 2 = true ∧ fdq cX3_codeNow 25 (.iaload) 1 = true ∧ fdq cX3_codeNow 26 (.istore 6) 2 = true ∧ fdq cX3_codeNow 28 (.bipush 31) 2 = true ∧ fdq cX3_codeNow 30 (.iload_n 2) 1 = true ∧ fdq cX3_codeNow 31 (.imul) 1 = true ∧ fdq cX3_codeNow 32 (.iload 6) 2 = true ∧ fdq cX3_codeNow 34 (.sipush (-1000)) 3 = true ∧ fdq cX3_codeNow 37 (.if_icmp .ne 7) 3 = true ∧ fdq cX3_codeNow 40 (.iconst 0) 1 = true ∧ fdq cX3_codeNow 41 (.goto 5) 3 = true ∧ fdq cX3_codeNow 44 (.iload 6) 2 = true ∧ fdq cX3_codeNow 46 (.iadd) 1 = true ∧ fdq cX3_codeNow 47 (.istore_n 2) 1 = true ∧ fdq cX3_codeNow 48 (.iinc 5 1) 3 = true := by decide +kernel
theorem dX3_codeNow_22 : decode cX3_codeNow 22 = .ok (.aload_n 3, 1) := fdf dAb_168.1
theorem dX3_codeNow_23 : decode cX3_codeNow 23 = .ok (.iload 5, 2) := fdf dAb_168.2.1
theorem dX3_codeNow_25 : decode cX3_codeNow 25 = .ok (.iaload, 1) := fdf dAb_168.2.2.1
theorem dX3_codeNow_26 : decode cX3_codeNow 26 = .ok (.istore 6, 2) := fdf dAb_168.2.2.2.1
theorem dX3_codeNow_28 : decode cX3_codeNow 28 = .ok (.bipush 31, 2) := fdf dAb_168.2.2.2.2.1
theorem dX3_codeNow_30 : decode cX3_codeNow 30 = .ok (.iload_n 2, 1) := fdf dAb_168.2.2.2.2.2.1
theorem dX3_codeNow_31 : decode cX3_codeNow 31 = .ok (.imul, 1) := fdf dAb_168.2.2.2.2.2.2.1
theorem dX3_codeNow_32 : decode cX3_codeNow 32 = .ok (.iload 6, 2) := fdf dAb_168.2.2.2.2.2.2.2.1
theorem dX3_codeNow_34 : decode cX3_codeNow 34 = .ok (.sipush (-1000), 3) := fdf dAb_168.2.2.2.2.2.2.2.2.1
theorem dX3_codeNow_37 : decode cX3_codeNow 37 = .ok (.if_icmp .ne 7, 3) := fdf dAb_168.2.2.2.2.2.2.2.2.2.1
theorem dX3_codeNow_40 : decode cX3_codeNow 40 = .ok (.iconst 0, 1) := fdf dAb_168.2.2.2.2.2.2.2.2.2.2.1
theorem dX3_codeNow_41 : decode cX3_codeNow 41 = .ok (.goto 5, 3) := fdf dAb_168.2.2.2.2.2.2.2.2.2.2.2.1
theorem dX3_codeNow_44 : decode cX3_codeNow 44 = .ok (.iload 6, 2) := fdf dAb_168.2.2.2.2.2.2.2.2.2.2.2.2.1
theorem dX3_codeNow_46 : decode cX3_codeNow 46 = .ok (.iadd, 1) := fdf dAb_168.2.2.2.2.2.2.2.2.2.2.2.2.2.1
theorem dX3_codeNow_47 : decode cX3_codeNow 47 = .ok (.istore_n 2, 1) := fdf dAb_168.2.2.2.2.2.2.2.2.2.2.2.2.2.2.1
theorem dX3_codeNow_48 : decode cX3_codeNow 48 = .ok (.iinc 5 1, 3) := fdf dAb_168.2.2.2.2.2.2.2.2.2.2.2.2.2.2.2
theorem dAb_169 : fdq cX3_codeNow 51 (.goto (-36)) 3 = true ∧ fdq cX3_codeNow 54 (.iload_n 2) 1 = true ∧ fdq cX3_codeNow 55 (.ireturn) 1 = true ∧ fdq cX3_code 0 (.aload_n 0) 1 = true ∧ fdq cX3_code 1 (.aload_n 0) 1 = true ∧ fdq cX3_code 2 (.iload_n 1) 1 = true ∧ fdq cX3_code 3 (.invokevirtual 32) 3 = true ∧ fdq cX3_code 6 (.iconst 0) 1 = true ∧ fdq cX3_code 7 (.invokevirtual 81) 3 = true ∧ fdq cX3_code 10 (.ifCond .eq 7) 3 = true ∧ fdq cX3_code 13 (.iconst 0) 1 = true ∧ fdq cX3_code 14 (.goto 8) 3 = true ∧ fdq cX3_code 17 (.aload_n 0) 1 = true ∧ fdq cX3_code 18 (.iload_n 1) 1 = true ∧ fdq cX3_code 19 (.invokevirtual 132) 3 = true ∧ fdq cX3_code 22 (.ireturn) 1 = true := by decide +kernel
theorem dX3_codeNow_51 : decode cX3_codeNow 51 = .ok (.goto (-36), 3) := fdf dAb_169.1
theorem dX3_codeNow_54 : decode cX3_codeNow 54 = .ok (.iload_n 2, 1) := fdf dAb_169.2.1
theorem dX3_codeNow_55 : decode cX3_codeNow 55 = .ok (.ireturn, 1) := fdf dAb_169.2.2.1
theorem dX3_code_0 : decode cX3_code 0 = .ok (.aload_n 0, 1) := fdf dAb_169.2.2.2.1
theorem dX3_code_1 : decode cX3_code 1 = .ok (.aload_n 0, 1) := fdf dAb_169.2.2.2.2.1
theorem dX3_code_2 : decode cX3_code 2 = .ok (.iload_n 1, 1) := fdf dAb_169.2.2.2.2.2.1
theorem dX3_code_3 : decode cX3_code 3 = .ok (.invokevirtual 32, 3) := fdf dAb_169.2.2.2.2.2.2.1
theorem dX3_code_6 : decode cX3_code 6 = .ok (.iconst 0, 1) := fdf dAb_169.2.2.2.2.2.2.2.1
theorem dX3_code_7 : decode cX3_code 7 = .ok (.invokevirtual 81, 3) := fdf dAb_169.2.2.2.2.2.2.2.2.1
theorem dX3_code_10 : decode cX3_code 10 = .ok (.ifCond .eq 7, 3) := fdf dAb_169.2.2.2.2.2.2.2.2.2.1
theorem dX3_code_13 : decode cX3_code 13 = .ok (.iconst 0, 1) := fdf dAb_169.2.2.2.2.2.2.2.2.2.2.1
theorem dX3_code_14 : decode cX3_code 14 = .ok (.goto 8, 3) := fdf dAb_169.2.2.2.2.2.2.2.2.2.2.2.1
theorem dX3_code_17 : decode cX3_code 17 = .ok (.aload_n 0, 1) := fdf dAb_169.2.2.2.2.2.2.2.2.2.2.2.2.1
theorem dX3_code_18 : decode cX3_code 18 = .ok (.iload_n 1, 1) := fdf dAb_169.2.2.2.2.2.2.2.2.2.2.2.2.2.1
theorem dX3_code_19 : decode cX3_code 19 = .ok (.invokevirtual 132, 3) := fdf dAb_169.2.2.2.2.2.2.2.2.2.2.2.2.2.2.1
theorem dX3_code_22 : decode cX3_code 22 = .ok (.ireturn, 1) := fdf dAb_169.2.2.2.2.2.2.2.2.2.2.2.2.2.2.2
theorem dAb_170 : fdq cX3_isBeyond 0 (.aload_n 0) 1 = true ∧ fdq cX3_isBeyond 1 (.iload_n 1) 1 = true ∧ fdq cX3_isBeyond 2 (.invokevirtual 32) 3 = true ∧ fdq cX3_isBeyond 5 (.ifCond .ne 21) 3 = true ∧ fdq cX3_isBeyond 8 (.iload_n 2) 1 = true ∧ fdq cX3_isBeyond 9 (.iconst 0) 1 = true ∧ fdq cX3_isBeyond 10 (.aload_n 0) 1 = true ∧ fdq cX3_isBeyond 11 (.getfield 21) 3 = true ∧ fdq cX3_isBeyond 14 (.iload_n 1) 1 = true ∧ fdq cX3_isBeyond 15 (.iaload) 1 = true ∧ fdq cX3_isBeyond 16 (.invokestatic 24) 3 = true ∧ fdq cX3_isBeyond 19 (.ifCond .ne 7) 3 = true ∧ fdq cX3_isBeyond 22 (.iconst 1) 1 = true ∧ fdq cX3_isBeyond 23 (.goto 4) 3 = true ∧ fdq cX3_isBeyond 26 (.iconst 0) 1 = true ∧ fdq cX3_isBeyond 27 (.ireturn) 1 = true := by decide +kernel
theorem dX3_isBeyond_0 : decode cX3_isBeyond 0 = .ok (.aload_n 0, 1) := fdf dAb_170.1
theorem dX3_isBeyond_1 : decode cX3_isBeyond 1 = .ok (.iload_n 1, 1) := fdf dAb_170.2.1
theorem dX3_isBeyond_2 : decode cX3_isBeyond 2 = .ok (.invokevirtual 32, 3) := fdf dAb_170.2.2.1
theorem dX3_isBeyond_5 : decode cX3_isBeyond 5 = .ok (.ifCond .ne 21, 3) := fdf dAb_170.2.2.2.1
theorem dX3_isBeyond_8 : decode cX3_isBeyond 8 = .ok (.iload_n 2, 1) := fdf dAb_170.2.2.2.2.1
theorem dX3_isBeyond_9 : decode cX3_isBeyond 9 = .ok (.iconst 0, 1) := fdf dAb_170.2.2.2.2.2.1
theorem dX3_isBeyond_10 : decode cX3_isBeyond 10 = .ok (.aload_n 0, 1) := fdf dAb_170.2.2.2.2.2.2.1
theorem dX3_isBeyond_11 : decode cX3_isBeyond 11 = .ok (.getfield 21, 3) := fdf dAb_170.2.2.2.2.2.2.2.1
theorem dX3_isBeyond_14 : decode cX3_isBeyond 14 = .ok (.iload_n 1, 1) := fdf dAb_170.2.2.2.2.2.2.2.2.1
theorem dX3_isBeyond_15 : decode cX3_isBeyond 15 = .ok (.iaload, 1) := fdf dAb_170.2.2.2.2.2.2.2.2.2.1
theorem dX3_isBeyond_16 : decode cX3_isBeyond 16 = .ok (.invokestatic 24, 3) := fdf dAb_170.2.2.2.2.2.2.2.2.2.2.1
theorem dX3_isBeyond_19 : decode cX3_isBeyond 19 = .ok (.ifCond .ne 7, 3) := fdf dAb_170.2.2.2.2.2.2.2.2.2.2.2.1
theorem dX3_isBeyond_22 : decode cX3_isBeyond 22 = .ok (.iconst 1, 1) := fdf dAb_170.2.2.2.2.2.2.2.2.2.2.2.2.1
theorem dX3_isBeyond_23 : decode cX3_isBeyond 23 = .ok (.goto 4, 3) := fdf dAb_170.2.2.2.2.2.2.2.2.2.2.2.2.2.1
theorem dX3_isBeyond_26 : decode cX3_isBeyond 26 = .ok (.iconst 0, 1) := fdf dAb_170.2.2.2.2.2.2.2.2.2.2.2.2.2.2.1
theorem dX3_isBeyond_27 : decode cX3_isBeyond 27 = .ok (.ireturn, 1) := fdf dAb_170.2.2.2.2.2.2.2.2.2.2.2.2.2.2.2
theorem dAb_171 : fdq cX3_walk 0 (.aload_n 0) 1 = true ∧ fdq cX3_walk 1 (.aload_n 0) 1 = true ∧ fdq cX3_walk 2 (.iload_n 1) 1 = true ∧ fdq cX3_walk 3 (.invokevirtual 32) 3 = true ∧ fdq cX3_walk 6 (.aload_n 0) 1 = true ∧ fdq cX3_walk 7 (.iload_n 1) 1 = true ∧ fdq cX3_walk 8 (.iload_n 2) 1 = true ∧ fdq cX3_walk 9 (.invokevirtual 135) 3 = true ∧ fdq cX3_walk 12 (.ifCond .ne 13) 3 = true ∧ fdq cX3_walk 15 (.iload_n 3) 1 = true ∧ fdq cX3_walk 16 (.iconst 0) 1 = true ∧ fdq cX3_walk 17 (.bipush 12) 2 = true ∧ fdq cX3_walk 19 (.invokestatic 24) 3 = true ∧ fdq cX3_walk 22 (.ifCond .ne 7) 3 = true ∧ fdq cX3_walk 25 (.iconst 1) 1 = true ∧ fdq cX3_walk 26 (.goto 4) 3 = true := by decide +kernel
theorem dX3_walk_0 : decode cX3_walk 0 = .ok (.aload_n 0, 1) := fdf dAb_171.1
theorem dX3_walk_1 : decode cX3_walk 1 = .ok (.aload_n 0, 1) := fdf dAb_171.2.1
theorem dX3_walk_2 : decode cX3_walk 2 = .ok (.iload_n 1, 1) := fdf dAb_171.2.2.1
theorem dX3_walk_3 : decode cX3_walk 3 = .ok (.invokevirtual 32, 3) := fdf dAb_171.2.2.2.1
theorem dX3_walk_6 : decode cX3_walk 6 = .ok (.aload_n 0, 1) := fdf dAb_171.2.2.2.2.1
theorem dX3_walk_7 : decode cX3_walk 7 = .ok (.iload_n 1, 1) := fdf dAb_171.2.2.2.2.2.1
theorem dX3_walk_8 : decode cX3_walk 8 = .ok (.iload_n 2, 1) := fdf dAb_171.2.2.2.2.2.2.1
theorem dX3_walk_9 : decode cX3_walk 9 = .ok (.invokevirtual 135, 3) := fdf dAb_171.2.2.2.2.2.2.2.1
theorem dX3_walk_12 : decode cX3_walk 12 = .ok (.ifCond .ne 13, 3) := fdf dAb_171.2.2.2.2.2.2.2.2.1
theorem dX3_walk_15 : decode cX3_walk 15 = .ok (.iload_n 3, 1) := fdf dAb_171.2.2.2.2.2.2.2.2.2.1
theorem dX3_walk_16 : decode cX3_walk 16 = .ok (.iconst 0, 1) := fdf dAb_171.2.2.2.2.2.2.2.2.2.2.1
theorem dX3_walk_17 : decode cX3_walk 17 = .ok (.bipush 12, 2) := fdf dAb_171.2.2.2.2.2.2.2.2.2.2.2.1
theorem dX3_walk_19 : decode cX3_walk 19 = .ok (.invokestatic 24, 3) := fdf dAb_171.2.2.2.2.2.2.2.2.2.2.2.2.1
theorem dX3_walk_22 : decode cX3_walk 22 = .ok (.ifCond .ne 7, 3) := fdf dAb_171.2.2.2.2.2.2.2.2.2.2.2.2.2.1
theorem dX3_walk_25 : decode cX3_walk 25 = .ok (.iconst 1, 1) := fdf dAb_171.2.2.2.2.2.2.2.2.2.2.2.2.2.2.1
theorem dX3_walk_26 : decode cX3_walk 26 = .ok (.goto 4, 3) := fdf dAb_171.2.2.2.2.2.2.2.2.2.2.2.2.2.2.2
theorem dAb_172 : fdq cX3_walk 29 (.iconst 0) 1 = true ∧ fdq cX3_walk 30 (.invokevirtual 81) 3 = true ∧ fdq cX3_walk 33 (.ifCond .eq 6) 3 = true ∧ fdq cX3_walk 36 (.ldc 68) 2 = true ∧ fdq cX3_walk 38 (.areturn) 1 = true ∧ fdq cX3_walk 39 (.ldc 68) 2 = true ∧ fdq cX3_walk 41 (.astore 5) 2 = true ∧ fdq cX3_walk 43 (.iload 4) 2 = true ∧ fdq cX3_walk 45 (.ifCond .eq 9) 3 = true ∧ fdq cX3_walk 48 (.iload_n 2) 1 = true ∧ fdq cX3_walk 49 (.iconst 1) 1 = true ∧ fdq cX3_walk 50 (.isub) 1 = true ∧ fdq cX3_walk 51 (.goto 4) 3 = true ∧ fdq cX3_walk 54 (.iload_n 2) 1 = true ∧ fdq cX3_walk 55 (.istore 6) 2 = true ∧ fdq cX3_walk 57 (.iconst 0) 1 = true := by decide +kernel
theorem dX3_walk_29 : decode cX3_walk 29 = .ok (.iconst 0, 1) := fdf dAb_172.1
theorem dX3_walk_30 : decode cX3_walk 30 = .ok (.invokevirtual 81, 3) := fdf dAb_172.2.1
theorem dX3_walk_33 : decode cX3_walk 33 = .ok (.ifCond .eq 6, 3) := fdf dAb_172.2.2.1
theorem dX3_walk_36 : decode cX3_walk 36 = .ok (.ldc 68, 2) := fdf dAb_172.2.2.2.1
theorem dX3_walk_38 : decode cX3_walk 38 = .ok (.areturn, 1) := fdf dAb_172.2.2.2.2.1
theorem dX3_walk_39 : decode cX3_walk 39 = .ok (.ldc 68, 2) := fdf dAb_172.2.2.2.2.2.1
theorem dX3_walk_41 : decode cX3_walk 41 = .ok (.astore 5, 2) := fdf dAb_172.2.2.2.2.2.2.1
theorem dX3_walk_43 : decode cX3_walk 43 = .ok (.iload 4, 2) := fdf dAb_172.2.2.2.2.2.2.2.1
theorem dX3_walk_45 : decode cX3_walk 45 = .ok (.ifCond .eq 9, 3) := fdf dAb_172.2.2.2.2.2.2.2.2.1
theorem dX3_walk_48 : decode cX3_walk 48 = .ok (.iload_n 2, 1) := fdf dAb_172.2.2.2.2.2.2.2.2.2.1
theorem dX3_walk_49 : decode cX3_walk 49 = .ok (.iconst 1, 1) := fdf dAb_172.2.2.2.2.2.2.2.2.2.2.1
theorem dX3_walk_50 : decode cX3_walk 50 = .ok (.isub, 1) := fdf dAb_172.2.2.2.2.2.2.2.2.2.2.2.1
theorem dX3_walk_51 : decode cX3_walk 51 = .ok (.goto 4, 3) := fdf dAb_172.2.2.2.2.2.2.2.2.2.2.2.2.1
theorem dX3_walk_54 : decode cX3_walk 54 = .ok (.iload_n 2, 1) := fdf dAb_172.2.2.2.2.2.2.2.2.2.2.2.2.2.1
theorem dX3_walk_55 : decode cX3_walk 55 = .ok (.istore 6, 2) := fdf dAb_172.2.2.2.2.2.2.2.2.2.2.2.2.2.2.1
theorem dX3_walk_57 : decode cX3_walk 57 = .ok (.iconst 0, 1) := fdf dAb_172.2.2.2.2.2.2.2.2.2.2.2.2.2.2.2
theorem dAb_173 : fdq cX3_walk 58 (.istore 7) 2 = true ∧ fdq cX3_walk 60 (.iload 7) 2 = true ∧ fdq cX3_walk 62 (.iload_n 3) 1 = true ∧ fdq cX3_walk 63 (.if_icmp .ge 99) 3 = true ∧ fdq cX3_walk 66 (.iload 6) 2 = true ∧ fdq cX3_walk 68 (.iconst 0) 1 = true ∧ fdq cX3_walk 69 (.aload_n 0) 1 = true ∧ fdq cX3_walk 70 (.getfield 21) 3 = true ∧ fdq cX3_walk 73 (.iload_n 1) 1 = true ∧ fdq cX3_walk 74 (.iaload) 1 = true ∧ fdq cX3_walk 75 (.iconst 1) 1 = true ∧ fdq cX3_walk 76 (.isub) 1 = true ∧ fdq cX3_walk 77 (.invokestatic 24) 3 = true ∧ fdq cX3_walk 80 (.ifCond .eq 82) 3 = true ∧ fdq cX3_walk 83 (.new 65) 3 = true ∧ fdq cX3_walk 86 (.dup) 1 = true := by decide +kernel
theorem dX3_walk_58 : decode cX3_walk 58 = .ok (.istore 7, 2) := fdf dAb_173.1
theorem dX3_walk_60 : decode cX3_walk 60 = .ok (.iload 7, 2) := fdf dAb_173.2.1
theorem dX3_walk_62 : decode cX3_walk 62 = .ok (.iload_n 3, 1) := fdf dAb_173.2.2.1
theorem dX3_walk_63 : decode cX3_walk 63 = .ok (.if_icmp .ge 99, 3) := fdf dAb_173.2.2.2.1
theorem dX3_walk_66 : decode cX3_walk 66 = .ok (.iload 6, 2) := fdf dAb_173.2.2.2.2.1
theorem dX3_walk_68 : decode cX3_walk 68 = .ok (.iconst 0, 1) := fdf dAb_173.2.2.2.2.2.1
theorem dX3_walk_69 : decode cX3_walk 69 = .ok (.aload_n 0, 1) := fdf dAb_173.2.2.2.2.2.2.1
theorem dX3_walk_70 : decode cX3_walk 70 = .ok (.getfield 21, 3) := fdf dAb_173.2.2.2.2.2.2.2.1
theorem dX3_walk_73 : decode cX3_walk 73 = .ok (.iload_n 1, 1) := fdf dAb_173.2.2.2.2.2.2.2.2.1
theorem dX3_walk_74 : decode cX3_walk 74 = .ok (.iaload, 1) := fdf dAb_173.2.2.2.2.2.2.2.2.2.1
theorem dX3_walk_75 : decode cX3_walk 75 = .ok (.iconst 1, 1) := fdf dAb_173.2.2.2.2.2.2.2.2.2.2.1
theorem dX3_walk_76 : decode cX3_walk 76 = .ok (.isub, 1) := fdf dAb_173.2.2.2.2.2.2.2.2.2.2.2.1
theorem dX3_walk_77 : decode cX3_walk 77 = .ok (.invokestatic 24, 3) := fdf dAb_173.2.2.2.2.2.2.2.2.2.2.2.2.1
theorem dX3_walk_80 : decode cX3_walk 80 = .ok (.ifCond .eq 82, 3) := fdf dAb_173.2.2.2.2.2.2.2.2.2.2.2.2.2.1
theorem dX3_walk_83 : decode cX3_walk 83 = .ok (.new 65, 3) := fdf dAb_173.2.2.2.2.2.2.2.2.2.2.2.2.2.2.1
theorem dX3_walk_86 : decode cX3_walk 86 = .ok (.dup, 1) := fdf dAb_173.2.2.2.2.2.2.2.2.2.2.2.2.2.2.2
theorem dAb_174 : fdq cX3_walk 87 (.invokespecial 67) 3 = true ∧ fdq cX3_walk 90 (.aload 5) 2 = true ∧ fdq cX3_walk 92 (.invokevirtual 70) 3 = true ∧ fdq cX3_walk 95 (.aload 5) 2 = true ∧ fdq cX3_walk 97 (.invokevirtual 99) 3 = true ∧ fdq cX3_walk 100 (.ifCond .eq 8) 3 = true ∧ fdq cX3_walk 103 (.ldc 68) 2 = true ∧ fdq cX3_walk 105 (.goto 5) 3 = true ∧ fdq cX3_walk 108 (.ldc 109) 2 = true ∧ fdq cX3_walk 110 (.invokevirtual 70) 3 = true ∧ fdq cX3_walk 113 (.iload 6) 2 = true ∧ fdq cX3_walk 115 (.invokevirtual 74) 3 = true ∧ fdq cX3_walk 118 (.ldc 138) 2 = true ∧ fdq cX3_walk 120 (.invokevirtual 70) 3 = true ∧ fdq cX3_walk 123 (.aload_n 0) 1 = true ∧ fdq cX3_walk 124 (.iload_n 1) 1 = true := by decide +kernel
theorem dX3_walk_87 : decode cX3_walk 87 = .ok (.invokespecial 67, 3) := fdf dAb_174.1
theorem dX3_walk_90 : decode cX3_walk 90 = .ok (.aload 5, 2) := fdf dAb_174.2.1
theorem dX3_walk_92 : decode cX3_walk 92 = .ok (.invokevirtual 70, 3) := fdf dAb_174.2.2.1
theorem dX3_walk_95 : decode cX3_walk 95 = .ok (.aload 5, 2) := fdf dAb_174.2.2.2.1
theorem dX3_walk_97 : decode cX3_walk 97 = .ok (.invokevirtual 99, 3) := fdf dAb_174.2.2.2.2.1
theorem dX3_walk_100 : decode cX3_walk 100 = .ok (.ifCond .eq 8, 3) := fdf dAb_174.2.2.2.2.2.1
theorem dX3_walk_103 : decode cX3_walk 103 = .ok (.ldc 68, 2) := fdf dAb_174.2.2.2.2.2.2.1
theorem dX3_walk_105 : decode cX3_walk 105 = .ok (.goto 5, 3) := fdf dAb_174.2.2.2.2.2.2.2.1
theorem dX3_walk_108 : decode cX3_walk 108 = .ok (.ldc 109, 2) := fdf dAb_174.2.2.2.2.2.2.2.2.1
theorem dX3_walk_110 : decode cX3_walk 110 = .ok (.invokevirtual 70, 3) := fdf dAb_174.2.2.2.2.2.2.2.2.2.1
theorem dX3_walk_113 : decode cX3_walk 113 = .ok (.iload 6, 2) := fdf dAb_174.2.2.2.2.2.2.2.2.2.2.1
theorem dX3_walk_115 : decode cX3_walk 115 = .ok (.invokevirtual 74, 3) := fdf dAb_174.2.2.2.2.2.2.2.2.2.2.2.1
theorem dX3_walk_118 : decode cX3_walk 118 = .ok (.ldc 138, 2) := fdf dAb_174.2.2.2.2.2.2.2.2.2.2.2.2.1
theorem dX3_walk_120 : decode cX3_walk 120 = .ok (.invokevirtual 70, 3) := fdf dAb_174.2.2.2.2.2.2.2.2.2.2.2.2.2.1
theorem dX3_walk_123 : decode cX3_walk 123 = .ok (.aload_n 0, 1) := fdf dAb_174.2.2.2.2.2.2.2.2.2.2.2.2.2.2.1
theorem dX3_walk_124 : decode cX3_walk 124 = .ok (.iload_n 1, 1) := fdf dAb_174.2.2.2.2.2.2.2.2.2.2.2.2.2.2.2
theorem dAb_175 : fdq cX3_walk 125 (.iload 6) 2 = true ∧ fdq cX3_walk 127 (.invokevirtual 36) 3 = true ∧ fdq cX3_walk 130 (.invokestatic 105) 3 = true ∧ fdq cX3_walk 133 (.invokevirtual 70) 3 = true ∧ fdq cX3_walk 136 (.invokevirtual 77) 3 = true ∧ fdq cX3_walk 139 (.astore 5) 2 = true ∧ fdq cX3_walk 141 (.iload 6) 2 = true ∧ fdq cX3_walk 143 (.iload 4) 2 = true ∧ fdq cX3_walk 145 (.ifCond .eq 7) 3 = true ∧ fdq cX3_walk 148 (.iconst (-1)) 1 = true ∧ fdq cX3_walk 149 (.goto 4) 3 = true ∧ fdq cX3_walk 152 (.iconst 1) 1 = true ∧ fdq cX3_walk 153 (.iadd) 1 = true ∧ fdq cX3_walk 154 (.istore 6) 2 = true ∧ fdq cX3_walk 156 (.iinc 7 1) 3 = true ∧ fdq cX3_walk 159 (.goto (-99)) 3 = true := by decide +kernel
theorem dX3_walk_125 : decode cX3_walk 125 = .ok (.iload 6, 2) := fdf dAb_175.1
theorem dX3_walk_127 : decode cX3_walk 127 = .ok (.invokevirtual 36, 3) := fdf dAb_175.2.1
theorem dX3_walk_130 : decode cX3_walk 130 = .ok (.invokestatic 105, 3) := fdf dAb_175.2.2.1
theorem dX3_walk_133 : decode cX3_walk 133 = .ok (.invokevirtual 70, 3) := fdf dAb_175.2.2.2.1
theorem dX3_walk_136 : decode cX3_walk 136 = .ok (.invokevirtual 77, 3) := fdf dAb_175.2.2.2.2.1
theorem dX3_walk_139 : decode cX3_walk 139 = .ok (.astore 5, 2) := fdf dAb_175.2.2.2.2.2.1
theorem dX3_walk_141 : decode cX3_walk 141 = .ok (.iload 6, 2) := fdf dAb_175.2.2.2.2.2.2.1
theorem dX3_walk_143 : decode cX3_walk 143 = .ok (.iload 4, 2) := fdf dAb_175.2.2.2.2.2.2.2.1
theorem dX3_walk_145 : decode cX3_walk 145 = .ok (.ifCond .eq 7, 3) := fdf dAb_175.2.2.2.2.2.2.2.2.1
theorem dX3_walk_148 : decode cX3_walk 148 = .ok (.iconst (-1), 1) := fdf dAb_175.2.2.2.2.2.2.2.2.2.1
theorem dX3_walk_149 : decode cX3_walk 149 = .ok (.goto 4, 3) := fdf dAb_175.2.2.2.2.2.2.2.2.2.2.1
theorem dX3_walk_152 : decode cX3_walk 152 = .ok (.iconst 1, 1) := fdf dAb_175.2.2.2.2.2.2.2.2.2.2.2.1
theorem dX3_walk_153 : decode cX3_walk 153 = .ok (.iadd, 1) := fdf dAb_175.2.2.2.2.2.2.2.2.2.2.2.2.1
theorem dX3_walk_154 : decode cX3_walk 154 = .ok (.istore 6, 2) := fdf dAb_175.2.2.2.2.2.2.2.2.2.2.2.2.2.1
theorem dX3_walk_156 : decode cX3_walk 156 = .ok (.iinc 7 1, 3) := fdf dAb_175.2.2.2.2.2.2.2.2.2.2.2.2.2.2.1
theorem dX3_walk_159 : decode cX3_walk 159 = .ok (.goto (-99), 3) := fdf dAb_175.2.2.2.2.2.2.2.2.2.2.2.2.2.2.2
theorem dAb_176 : fdq cX3_walk 162 (.aload 5) 2 = true ∧ fdq cX3_walk 164 (.areturn) 1 = true ∧ fdq cX3_sumNow 0 (.iconst 0) 1 = true ∧ fdq cX3_sumNow 1 (.istore_n 2) 1 = true ∧ fdq cX3_sumNow 2 (.aload_n 0) 1 = true ∧ fdq cX3_sumNow 3 (.iload_n 1) 1 = true ∧ fdq cX3_sumNow 4 (.invokevirtual 95) 3 = true ∧ fdq cX3_sumNow 7 (.astore_n 3) 1 = true ∧ fdq cX3_sumNow 8 (.aload_n 3) 1 = true ∧ fdq cX3_sumNow 9 (.arraylength) 1 = true ∧ fdq cX3_sumNow 10 (.istore 4) 2 = true ∧ fdq cX3_sumNow 12 (.iconst 0) 1 = true ∧ fdq cX3_sumNow 13 (.istore 5) 2 = true ∧ fdq cX3_sumNow 15 (.iload 5) 2 = true ∧ fdq cX3_sumNow 17 (.iload 4) 2 = true ∧ fdq cX3_sumNow 19 (.if_icmp .ge 32) 3 = true := by decide +kernel
theorem dX3_walk_162 : decode cX3_walk 162 = .ok (.aload 5, 2) := fdf dAb_176.1
theorem dX3_walk_164 : decode cX3_walk 164 = .ok (.areturn, 1) := fdf dAb_176.2.1
theorem dX3_sumNow_0 : decode cX3_sumNow 0 = .ok (.iconst 0, 1) := fdf dAb_176.2.2.1
theorem dX3_sumNow_1 : decode cX3_sumNow 1 = .ok (.istore_n 2, 1) := fdf dAb_176.2.2.2.1
theorem dX3_sumNow_2 : decode cX3_sumNow 2 = .ok (.aload_n 0, 1) := fdf dAb_176.2.2.2.2.1
theorem dX3_sumNow_3 : decode cX3_sumNow 3 = .ok (.iload_n 1, 1) := fdf dAb_176.2.2.2.2.2.1
theorem dX3_sumNow_4 : decode cX3_sumNow 4 = .ok (.invokevirtual 95, 3) := fdf dAb_176.2.2.2.2.2.2.1
theorem dX3_sumNow_7 : decode cX3_sumNow 7 = .ok (.astore_n 3, 1) := fdf dAb_176.2.2.2.2.2.2.2.1
theorem dX3_sumNow_8 : decode cX3_sumNow 8 = .ok (.aload_n 3, 1) := fdf dAb_176.2.2.2.2.2.2.2.2.1
theorem dX3_sumNow_9 : decode cX3_sumNow 9 = .ok (.arraylength, 1) := fdf dAb_176.2.2.2.2.2.2.2.2.2.1
theorem dX3_sumNow_10 : decode cX3_sumNow 10 = .ok (.istore 4, 2) := fdf dAb_176.2.2.2.2.2.2.2.2.2.2.1
theorem dX3_sumNow_12 : decode cX3_sumNow 12 = .ok (.iconst 0, 1) := fdf dAb_176.2.2.2.2.2.2.2.2.2.2.2.1
theorem dX3_sumNow_13 : decode cX3_sumNow 13 = .ok (.istore 5, 2) := fdf dAb_176.2.2.2.2.2.2.2.2.2.2.2.2.1
theorem dX3_sumNow_15 : decode cX3_sumNow 15 = .ok (.iload 5, 2) := fdf dAb_176.2.2.2.2.2.2.2.2.2.2.2.2.2.1
theorem dX3_sumNow_17 : decode cX3_sumNow 17 = .ok (.iload 4, 2) := fdf dAb_176.2.2.2.2.2.2.2.2.2.2.2.2.2.2.1
theorem dX3_sumNow_19 : decode cX3_sumNow 19 = .ok (.if_icmp .ge 32, 3) := fdf dAb_176.2.2.2.2.2.2.2.2.2.2.2.2.2.2.2
theorem dAb_177 : fdq cX3_sumNow 22 (.aload_n 3) 1 = true ∧ fdq cX3_sumNow 23 (.iload 5) 2 = true ∧ fdq cX3_sumNow 25 (.iaload) 1 = true ∧ fdq cX3_sumNow 26 (.istore 6) 2 = true ∧ fdq cX3_sumNow 28 (.iload_n 2) 1 = true ∧ fdq cX3_sumNow 29 (.iload 6) 2 = true ∧ fdq cX3_sumNow 31 (.sipush (-1000)) 3 = true ∧ fdq cX3_sumNow 34 (.if_icmp .ne 7) 3 = true ∧ fdq cX3_sumNow 37 (.iconst 0) 1 = true ∧ fdq cX3_sumNow 38 (.goto 5) 3 = true ∧ fdq cX3_sumNow 41 (.iload 6) 2 = true ∧ fdq cX3_sumNow 43 (.iadd) 1 = true ∧ fdq cX3_sumNow 44 (.istore_n 2) 1 = true ∧ fdq cX3_sumNow 45 (.iinc 5 1) 3 = true ∧ fdq cX3_sumNow 48 (.goto (-33)) 3 = true ∧ fdq cX3_sumNow 51 (.iload_n 2) 1 = true := by decide +kernel
theorem dX3_sumNow_22 : decode cX3_sumNow 22 = .ok (.aload_n 3, 1) := fdf dAb_177.1
theorem dX3_sumNow_23 : decode cX3_sumNow 23 = .ok (.iload 5, 2) := fdf dAb_177.2.1
theorem dX3_sumNow_25 : decode cX3_sumNow 25 = .ok (.iaload, 1) := fdf dAb_177.2.2.1
theorem dX3_sumNow_26 : decode cX3_sumNow 26 = .ok (.istore 6, 2) := fdf dAb_177.2.2.2.1
theorem dX3_sumNow_28 : decode cX3_sumNow 28 = .ok (.iload_n 2, 1) := fdf dAb_177.2.2.2.2.1
theorem dX3_sumNow_29 : decode cX3_sumNow 29 = .ok (.iload 6, 2) := fdf dAb_177.2.2.2.2.2.1
theorem dX3_sumNow_31 : decode cX3_sumNow 31 = .ok (.sipush (-1000), 3) := fdf dAb_177.2.2.2.2.2.2.1
theorem dX3_sumNow_34 : decode cX3_sumNow 34 = .ok (.if_icmp .ne 7, 3) := fdf dAb_177.2.2.2.2.2.2.2.1
theorem dX3_sumNow_37 : decode cX3_sumNow 37 = .ok (.iconst 0, 1) := fdf dAb_177.2.2.2.2.2.2.2.2.1
theorem dX3_sumNow_38 : decode cX3_sumNow 38 = .ok (.goto 5, 3) := fdf dAb_177.2.2.2.2.2.2.2.2.2.1
theorem dX3_sumNow_41 : decode cX3_sumNow 41 = .ok (.iload 6, 2) := fdf dAb_177.2.2.2.2.2.2.2.2.2.2.1
theorem dX3_sumNow_43 : decode cX3_sumNow 43 = .ok (.iadd, 1) := fdf dAb_177.2.2.2.2.2.2.2.2.2.2.2.1
theorem dX3_sumNow_44 : decode cX3_sumNow 44 = .ok (.istore_n 2, 1) := fdf dAb_177.2.2.2.2.2.2.2.2.2.2.2.2.1
theorem dX3_sumNow_45 : decode cX3_sumNow 45 = .ok (.iinc 5 1, 3) := fdf dAb_177.2.2.2.2.2.2.2.2.2.2.2.2.2.1
theorem dX3_sumNow_48 : decode cX3_sumNow 48 = .ok (.goto (-33), 3) := fdf dAb_177.2.2.2.2.2.2.2.2.2.2.2.2.2.2.1
theorem dX3_sumNow_51 : decode cX3_sumNow 51 = .ok (.iload_n 2, 1) := fdf dAb_177.2.2.2.2.2.2.2.2.2.2.2.2.2.2.2
theorem dAb_178 : fdq cX3_sumNow 52 (.ireturn) 1 = true ∧ fdq cX3_sum 0 (.aload_n 0) 1 = true ∧ fdq cX3_sum 1 (.aload_n 0) 1 = true ∧ fdq cX3_sum 2 (.iload_n 1) 1 = true ∧ fdq cX3_sum 3 (.invokevirtual 32) 3 = true ∧ fdq cX3_sum 6 (.iconst 0) 1 = true ∧ fdq cX3_sum 7 (.invokevirtual 81) 3 = true ∧ fdq cX3_sum 10 (.ifCond .eq 7) 3 = true ∧ fdq cX3_sum 13 (.iconst 0) 1 = true ∧ fdq cX3_sum 14 (.goto 8) 3 = true ∧ fdq cX3_sum 17 (.aload_n 0) 1 = true ∧ fdq cX3_sum 18 (.iload_n 1) 1 = true ∧ fdq cX3_sum 19 (.invokevirtual 140) 3 = true ∧ fdq cX3_sum 22 (.ireturn) 1 = true ∧ fdq cX3_isNoRule 0 (.iload_n 0) 1 = true ∧ fdq cX3_isNoRule 1 (.iconst 0) 1 = true := by decide +kernel
theorem dX3_sumNow_52 : decode cX3_sumNow 52 = .ok (.ireturn, 1) := fdf dAb_178.1
theorem dX3_sum_0 : decode cX3_sum 0 = .ok (.aload_n 0, 1) := fdf dAb_178.2.1
theorem dX3_sum_1 : decode cX3_sum 1 = .ok (.aload_n 0, 1) := fdf dAb_178.2.2.1
theorem dX3_sum_2 : decode cX3_sum 2 = .ok (.iload_n 1, 1) := fdf dAb_178.2.2.2.1
theorem dX3_sum_3 : decode cX3_sum 3 = .ok (.invokevirtual 32, 3) := fdf dAb_178.2.2.2.2.1
theorem dX3_sum_6 : decode cX3_sum 6 = .ok (.iconst 0, 1) := fdf dAb_178.2.2.2.2.2.1
theorem dX3_sum_7 : decode cX3_sum 7 = .ok (.invokevirtual 81, 3) := fdf dAb_178.2.2.2.2.2.2.1
theorem dX3_sum_10 : decode cX3_sum 10 = .ok (.ifCond .eq 7, 3) := fdf dAb_178.2.2.2.2.2.2.2.1
theorem dX3_sum_13 : decode cX3_sum 13 = .ok (.iconst 0, 1) := fdf dAb_178.2.2.2.2.2.2.2.2.1
theorem dX3_sum_14 : decode cX3_sum 14 = .ok (.goto 8, 3) := fdf dAb_178.2.2.2.2.2.2.2.2.2.1
theorem dX3_sum_17 : decode cX3_sum 17 = .ok (.aload_n 0, 1) := fdf dAb_178.2.2.2.2.2.2.2.2.2.2.1
theorem dX3_sum_18 : decode cX3_sum 18 = .ok (.iload_n 1, 1) := fdf dAb_178.2.2.2.2.2.2.2.2.2.2.2.1
theorem dX3_sum_19 : decode cX3_sum 19 = .ok (.invokevirtual 140, 3) := fdf dAb_178.2.2.2.2.2.2.2.2.2.2.2.2.1
theorem dX3_sum_22 : decode cX3_sum 22 = .ok (.ireturn, 1) := fdf dAb_178.2.2.2.2.2.2.2.2.2.2.2.2.2.1
theorem dX3_isNoRule_0 : decode cX3_isNoRule 0 = .ok (.iload_n 0, 1) := fdf dAb_178.2.2.2.2.2.2.2.2.2.2.2.2.2.2.1
theorem dX3_isNoRule_1 : decode cX3_isNoRule 1 = .ok (.iconst 0, 1) := fdf dAb_178.2.2.2.2.2.2.2.2.2.2.2.2.2.2.2
theorem dAb_179 : fdq cX3_isNoRule 2 (.iconst 3) 1 = true ∧ fdq cX3_isNoRule 3 (.invokestatic 24) 3 = true ∧ fdq cX3_isNoRule 6 (.ifCond .eq 14) 3 = true ∧ fdq cX3_isNoRule 9 (.iload_n 1) 1 = true ∧ fdq cX3_isNoRule 10 (.bipush (-99)) 2 = true ∧ fdq cX3_isNoRule 12 (.bipush 99) 2 = true ∧ fdq cX3_isNoRule 14 (.invokestatic 24) 3 = true ∧ fdq cX3_isNoRule 17 (.ifCond .ne 7) 3 = true ∧ fdq cX3_isNoRule 20 (.iconst 1) 1 = true ∧ fdq cX3_isNoRule 21 (.goto 4) 3 = true ∧ fdq cX3_isNoRule 24 (.iconst 0) 1 = true ∧ fdq cX3_isNoRule 25 (.ireturn) 1 = true ∧ fdq cX3_ruledAll 0 (.iload_n 2) 1 = true ∧ fdq cX3_ruledAll 1 (.istore 6) 2 = true ∧ fdq cX3_ruledAll 3 (.iload 6) 2 = true ∧ fdq cX3_ruledAll 5 (.iload_n 3) 1 = true := by decide +kernel
theorem dX3_isNoRule_2 : decode cX3_isNoRule 2 = .ok (.iconst 3, 1) := fdf dAb_179.1
theorem dX3_isNoRule_3 : decode cX3_isNoRule 3 = .ok (.invokestatic 24, 3) := fdf dAb_179.2.1
theorem dX3_isNoRule_6 : decode cX3_isNoRule 6 = .ok (.ifCond .eq 14, 3) := fdf dAb_179.2.2.1
theorem dX3_isNoRule_9 : decode cX3_isNoRule 9 = .ok (.iload_n 1, 1) := fdf dAb_179.2.2.2.1
theorem dX3_isNoRule_10 : decode cX3_isNoRule 10 = .ok (.bipush (-99), 2) := fdf dAb_179.2.2.2.2.1
theorem dX3_isNoRule_12 : decode cX3_isNoRule 12 = .ok (.bipush 99, 2) := fdf dAb_179.2.2.2.2.2.1
theorem dX3_isNoRule_14 : decode cX3_isNoRule 14 = .ok (.invokestatic 24, 3) := fdf dAb_179.2.2.2.2.2.2.1
theorem dX3_isNoRule_17 : decode cX3_isNoRule 17 = .ok (.ifCond .ne 7, 3) := fdf dAb_179.2.2.2.2.2.2.2.1
theorem dX3_isNoRule_20 : decode cX3_isNoRule 20 = .ok (.iconst 1, 1) := fdf dAb_179.2.2.2.2.2.2.2.2.1
theorem dX3_isNoRule_21 : decode cX3_isNoRule 21 = .ok (.goto 4, 3) := fdf dAb_179.2.2.2.2.2.2.2.2.2.1
theorem dX3_isNoRule_24 : decode cX3_isNoRule 24 = .ok (.iconst 0, 1) := fdf dAb_179.2.2.2.2.2.2.2.2.2.2.1
theorem dX3_isNoRule_25 : decode cX3_isNoRule 25 = .ok (.ireturn, 1) := fdf dAb_179.2.2.2.2.2.2.2.2.2.2.2.1
theorem dX3_ruledAll_0 : decode cX3_ruledAll 0 = .ok (.iload_n 2, 1) := fdf dAb_179.2.2.2.2.2.2.2.2.2.2.2.2.1
theorem dX3_ruledAll_1 : decode cX3_ruledAll 1 = .ok (.istore 6, 2) := fdf dAb_179.2.2.2.2.2.2.2.2.2.2.2.2.2.1
theorem dX3_ruledAll_3 : decode cX3_ruledAll 3 = .ok (.iload 6, 2) := fdf dAb_179.2.2.2.2.2.2.2.2.2.2.2.2.2.2.1
theorem dX3_ruledAll_5 : decode cX3_ruledAll 5 = .ok (.iload_n 3, 1) := fdf dAb_179.2.2.2.2.2.2.2.2.2.2.2.2.2.2.2
theorem dAb_180 : fdq cX3_ruledAll 6 (.if_icmp .ge 30) 3 = true ∧ fdq cX3_ruledAll 9 (.aload_n 0) 1 = true ∧ fdq cX3_ruledAll 10 (.iload_n 1) 1 = true ∧ fdq cX3_ruledAll 11 (.iload 6) 2 = true ∧ fdq cX3_ruledAll 13 (.iload 4) 2 = true ∧ fdq cX3_ruledAll 15 (.aload_n 0) 1 = true ∧ fdq cX3_ruledAll 16 (.iload_n 1) 1 = true ∧ fdq cX3_ruledAll 17 (.iload 6) 2 = true ∧ fdq cX3_ruledAll 19 (.invokevirtual 36) 3 = true ∧ fdq cX3_ruledAll 22 (.iload 5) 2 = true ∧ fdq cX3_ruledAll 24 (.invokestatic 143) 3 = true ∧ fdq cX3_ruledAll 27 (.invokevirtual 40) 3 = true ∧ fdq cX3_ruledAll 30 (.iinc 6 1) 3 = true ∧ fdq cX3_ruledAll 33 (.goto (-30)) 3 = true ∧ fdq cX3_ruledAll 36 (.iload_n 3) 1 = true ∧ fdq cX3_ruledAll 37 (.iload_n 2) 1 = true := by decide +kernel
theorem dX3_ruledAll_6 : decode cX3_ruledAll 6 = .ok (.if_icmp .ge 30, 3) := fdf dAb_180.1
theorem dX3_ruledAll_9 : decode cX3_ruledAll 9 = .ok (.aload_n 0, 1) := fdf dAb_180.2.1
theorem dX3_ruledAll_10 : decode cX3_ruledAll 10 = .ok (.iload_n 1, 1) := fdf dAb_180.2.2.1
theorem dX3_ruledAll_11 : decode cX3_ruledAll 11 = .ok (.iload 6, 2) := fdf dAb_180.2.2.2.1
theorem dX3_ruledAll_13 : decode cX3_ruledAll 13 = .ok (.iload 4, 2) := fdf dAb_180.2.2.2.2.1
theorem dX3_ruledAll_15 : decode cX3_ruledAll 15 = .ok (.aload_n 0, 1) := fdf dAb_180.2.2.2.2.2.1
theorem dX3_ruledAll_16 : decode cX3_ruledAll 16 = .ok (.iload_n 1, 1) := fdf dAb_180.2.2.2.2.2.2.1
theorem dX3_ruledAll_17 : decode cX3_ruledAll 17 = .ok (.iload 6, 2) := fdf dAb_180.2.2.2.2.2.2.2.1
theorem dX3_ruledAll_19 : decode cX3_ruledAll 19 = .ok (.invokevirtual 36, 3) := fdf dAb_180.2.2.2.2.2.2.2.2.1
theorem dX3_ruledAll_22 : decode cX3_ruledAll 22 = .ok (.iload 5, 2) := fdf dAb_180.2.2.2.2.2.2.2.2.2.1
theorem dX3_ruledAll_24 : decode cX3_ruledAll 24 = .ok (.invokestatic 143, 3) := fdf dAb_180.2.2.2.2.2.2.2.2.2.2.1
theorem dX3_ruledAll_27 : decode cX3_ruledAll 27 = .ok (.invokevirtual 40, 3) := fdf dAb_180.2.2.2.2.2.2.2.2.2.2.2.1
theorem dX3_ruledAll_30 : decode cX3_ruledAll 30 = .ok (.iinc 6 1, 3) := fdf dAb_180.2.2.2.2.2.2.2.2.2.2.2.2.1
theorem dX3_ruledAll_33 : decode cX3_ruledAll 33 = .ok (.goto (-30), 3) := fdf dAb_180.2.2.2.2.2.2.2.2.2.2.2.2.2.1
theorem dX3_ruledAll_36 : decode cX3_ruledAll 36 = .ok (.iload_n 3, 1) := fdf dAb_180.2.2.2.2.2.2.2.2.2.2.2.2.2.2.1
theorem dX3_ruledAll_37 : decode cX3_ruledAll 37 = .ok (.iload_n 2, 1) := fdf dAb_180.2.2.2.2.2.2.2.2.2.2.2.2.2.2.2
theorem dAb_181 : fdq cX3_ruledAll 38 (.isub) 1 = true ∧ fdq cX3_ruledAll 39 (.ireturn) 1 = true ∧ fdq cX3_walkSet 0 (.aload_n 0) 1 = true ∧ fdq cX3_walkSet 1 (.aload_n 0) 1 = true ∧ fdq cX3_walkSet 2 (.iload_n 1) 1 = true ∧ fdq cX3_walkSet 3 (.invokevirtual 32) 3 = true ∧ fdq cX3_walkSet 6 (.aload_n 0) 1 = true ∧ fdq cX3_walkSet 7 (.iload_n 1) 1 = true ∧ fdq cX3_walkSet 8 (.iload_n 2) 1 = true ∧ fdq cX3_walkSet 9 (.invokevirtual 135) 3 = true ∧ fdq cX3_walkSet 12 (.ifCond .ne 12) 3 = true ∧ fdq cX3_walkSet 15 (.iload_n 3) 1 = true ∧ fdq cX3_walkSet 16 (.iload 4) 2 = true ∧ fdq cX3_walkSet 18 (.invokestatic 147) 3 = true ∧ fdq cX3_walkSet 21 (.ifCond .eq 7) 3 = true ∧ fdq cX3_walkSet 24 (.iconst 1) 1 = true := by decide +kernel
theorem dX3_ruledAll_38 : decode cX3_ruledAll 38 = .ok (.isub, 1) := fdf dAb_181.1
theorem dX3_ruledAll_39 : decode cX3_ruledAll 39 = .ok (.ireturn, 1) := fdf dAb_181.2.1
theorem dX3_walkSet_0 : decode cX3_walkSet 0 = .ok (.aload_n 0, 1) := fdf dAb_181.2.2.1
theorem dX3_walkSet_1 : decode cX3_walkSet 1 = .ok (.aload_n 0, 1) := fdf dAb_181.2.2.2.1
theorem dX3_walkSet_2 : decode cX3_walkSet 2 = .ok (.iload_n 1, 1) := fdf dAb_181.2.2.2.2.1
theorem dX3_walkSet_3 : decode cX3_walkSet 3 = .ok (.invokevirtual 32, 3) := fdf dAb_181.2.2.2.2.2.1
theorem dX3_walkSet_6 : decode cX3_walkSet 6 = .ok (.aload_n 0, 1) := fdf dAb_181.2.2.2.2.2.2.1
theorem dX3_walkSet_7 : decode cX3_walkSet 7 = .ok (.iload_n 1, 1) := fdf dAb_181.2.2.2.2.2.2.2.1
theorem dX3_walkSet_8 : decode cX3_walkSet 8 = .ok (.iload_n 2, 1) := fdf dAb_181.2.2.2.2.2.2.2.2.1
theorem dX3_walkSet_9 : decode cX3_walkSet 9 = .ok (.invokevirtual 135, 3) := fdf dAb_181.2.2.2.2.2.2.2.2.2.1
theorem dX3_walkSet_12 : decode cX3_walkSet 12 = .ok (.ifCond .ne 12, 3) := fdf dAb_181.2.2.2.2.2.2.2.2.2.2.1
theorem dX3_walkSet_15 : decode cX3_walkSet 15 = .ok (.iload_n 3, 1) := fdf dAb_181.2.2.2.2.2.2.2.2.2.2.2.1
theorem dX3_walkSet_16 : decode cX3_walkSet 16 = .ok (.iload 4, 2) := fdf dAb_181.2.2.2.2.2.2.2.2.2.2.2.2.1
theorem dX3_walkSet_18 : decode cX3_walkSet 18 = .ok (.invokestatic 147, 3) := fdf dAb_181.2.2.2.2.2.2.2.2.2.2.2.2.2.1
theorem dX3_walkSet_21 : decode cX3_walkSet 21 = .ok (.ifCond .eq 7, 3) := fdf dAb_181.2.2.2.2.2.2.2.2.2.2.2.2.2.2.1
theorem dX3_walkSet_24 : decode cX3_walkSet 24 = .ok (.iconst 1, 1) := fdf dAb_181.2.2.2.2.2.2.2.2.2.2.2.2.2.2.2
theorem dAb_182 : fdq cX3_walkSet 25 (.goto 4) 3 = true ∧ fdq cX3_walkSet 28 (.iconst 0) 1 = true ∧ fdq cX3_walkSet 29 (.invokevirtual 81) 3 = true ∧ fdq cX3_walkSet 32 (.ifCond .eq 5) 3 = true ∧ fdq cX3_walkSet 35 (.iconst 0) 1 = true ∧ fdq cX3_walkSet 36 (.ireturn) 1 = true ∧ fdq cX3_walkSet 37 (.aload_n 0) 1 = true ∧ fdq cX3_walkSet 38 (.iload_n 1) 1 = true ∧ fdq cX3_walkSet 39 (.iload 5) 2 = true ∧ fdq cX3_walkSet 41 (.ifCond .eq 7) 3 = true ∧ fdq cX3_walkSet 44 (.iconst 0) 1 = true ∧ fdq cX3_walkSet 45 (.goto 4) 3 = true ∧ fdq cX3_walkSet 48 (.iload_n 2) 1 = true ∧ fdq cX3_walkSet 49 (.iload 5) 2 = true ∧ fdq cX3_walkSet 51 (.ifCond .eq 7) 3 = true ∧ fdq cX3_walkSet 54 (.iload_n 2) 1 = true := by decide +kernel
theorem dX3_walkSet_25 : decode cX3_walkSet 25 = .ok (.goto 4, 3) := fdf dAb_182.1
theorem dX3_walkSet_28 : decode cX3_walkSet 28 = .ok (.iconst 0, 1) := fdf dAb_182.2.1
theorem dX3_walkSet_29 : decode cX3_walkSet 29 = .ok (.invokevirtual 81, 3) := fdf dAb_182.2.2.1
theorem dX3_walkSet_32 : decode cX3_walkSet 32 = .ok (.ifCond .eq 5, 3) := fdf dAb_182.2.2.2.1
theorem dX3_walkSet_35 : decode cX3_walkSet 35 = .ok (.iconst 0, 1) := fdf dAb_182.2.2.2.2.1
theorem dX3_walkSet_36 : decode cX3_walkSet 36 = .ok (.ireturn, 1) := fdf dAb_182.2.2.2.2.2.1
theorem dX3_walkSet_37 : decode cX3_walkSet 37 = .ok (.aload_n 0, 1) := fdf dAb_182.2.2.2.2.2.2.1
theorem dX3_walkSet_38 : decode cX3_walkSet 38 = .ok (.iload_n 1, 1) := fdf dAb_182.2.2.2.2.2.2.2.1
theorem dX3_walkSet_39 : decode cX3_walkSet 39 = .ok (.iload 5, 2) := fdf dAb_182.2.2.2.2.2.2.2.2.1
theorem dX3_walkSet_41 : decode cX3_walkSet 41 = .ok (.ifCond .eq 7, 3) := fdf dAb_182.2.2.2.2.2.2.2.2.2.1
theorem dX3_walkSet_44 : decode cX3_walkSet 44 = .ok (.iconst 0, 1) := fdf dAb_182.2.2.2.2.2.2.2.2.2.2.1
theorem dX3_walkSet_45 : decode cX3_walkSet 45 = .ok (.goto 4, 3) := fdf dAb_182.2.2.2.2.2.2.2.2.2.2.2.1
theorem dX3_walkSet_48 : decode cX3_walkSet 48 = .ok (.iload_n 2, 1) := fdf dAb_182.2.2.2.2.2.2.2.2.2.2.2.2.1
theorem dX3_walkSet_49 : decode cX3_walkSet 49 = .ok (.iload 5, 2) := fdf dAb_182.2.2.2.2.2.2.2.2.2.2.2.2.2.1
theorem dX3_walkSet_51 : decode cX3_walkSet 51 = .ok (.ifCond .eq 7, 3) := fdf dAb_182.2.2.2.2.2.2.2.2.2.2.2.2.2.2.1
theorem dX3_walkSet_54 : decode cX3_walkSet 54 = .ok (.iload_n 2, 1) := fdf dAb_182.2.2.2.2.2.2.2.2.2.2.2.2.2.2.2
theorem dAb_183 : fdq cX3_walkSet 55 (.goto 9) 3 = true ∧ fdq cX3_walkSet 58 (.aload_n 0) 1 = true ∧ fdq cX3_walkSet 59 (.getfield 21) 3 = true ∧ fdq cX3_walkSet 62 (.iload_n 1) 1 = true ∧ fdq cX3_walkSet 63 (.iaload) 1 = true ∧ fdq cX3_walkSet 64 (.iload_n 3) 1 = true ∧ fdq cX3_walkSet 65 (.iload 4) 2 = true ∧ fdq cX3_walkSet 67 (.invokevirtual 150) 3 = true ∧ fdq cX3_walkSet 70 (.ireturn) 1 = true ∧ fdq cX3_replaceAll 0 (.aload_n 0) 1 = true ∧ fdq cX3_replaceAll 1 (.aload_n 0) 1 = true ∧ fdq cX3_replaceAll 2 (.iload_n 1) 1 = true ∧ fdq cX3_replaceAll 3 (.invokevirtual 32) 3 = true ∧ fdq cX3_replaceAll 6 (.iload_n 2) 1 = true ∧ fdq cX3_replaceAll 7 (.iload_n 3) 1 = true ∧ fdq cX3_replaceAll 8 (.invokestatic 147) 3 = true := by decide +kernel
theorem dX3_walkSet_55 : decode cX3_walkSet 55 = .ok (.goto 9, 3) := fdf dAb_183.1
theorem dX3_walkSet_58 : decode cX3_walkSet 58 = .ok (.aload_n 0, 1) := fdf dAb_183.2.1
theorem dX3_walkSet_59 : decode cX3_walkSet 59 = .ok (.getfield 21, 3) := fdf dAb_183.2.2.1
theorem dX3_walkSet_62 : decode cX3_walkSet 62 = .ok (.iload_n 1, 1) := fdf dAb_183.2.2.2.1
theorem dX3_walkSet_63 : decode cX3_walkSet 63 = .ok (.iaload, 1) := fdf dAb_183.2.2.2.2.1
theorem dX3_walkSet_64 : decode cX3_walkSet 64 = .ok (.iload_n 3, 1) := fdf dAb_183.2.2.2.2.2.1
theorem dX3_walkSet_65 : decode cX3_walkSet 65 = .ok (.iload 4, 2) := fdf dAb_183.2.2.2.2.2.2.1
theorem dX3_walkSet_67 : decode cX3_walkSet 67 = .ok (.invokevirtual 150, 3) := fdf dAb_183.2.2.2.2.2.2.2.1
theorem dX3_walkSet_70 : decode cX3_walkSet 70 = .ok (.ireturn, 1) := fdf dAb_183.2.2.2.2.2.2.2.2.1
theorem dX3_replaceAll_0 : decode cX3_replaceAll 0 = .ok (.aload_n 0, 1) := fdf dAb_183.2.2.2.2.2.2.2.2.2.1
theorem dX3_replaceAll_1 : decode cX3_replaceAll 1 = .ok (.aload_n 0, 1) := fdf dAb_183.2.2.2.2.2.2.2.2.2.2.1
theorem dX3_replaceAll_2 : decode cX3_replaceAll 2 = .ok (.iload_n 1, 1) := fdf dAb_183.2.2.2.2.2.2.2.2.2.2.2.1
theorem dX3_replaceAll_3 : decode cX3_replaceAll 3 = .ok (.invokevirtual 32, 3) := fdf dAb_183.2.2.2.2.2.2.2.2.2.2.2.2.1
theorem dX3_replaceAll_6 : decode cX3_replaceAll 6 = .ok (.iload_n 2, 1) := fdf dAb_183.2.2.2.2.2.2.2.2.2.2.2.2.2.1
theorem dX3_replaceAll_7 : decode cX3_replaceAll 7 = .ok (.iload_n 3, 1) := fdf dAb_183.2.2.2.2.2.2.2.2.2.2.2.2.2.2.1
theorem dX3_replaceAll_8 : decode cX3_replaceAll 8 = .ok (.invokestatic 147, 3) := fdf dAb_183.2.2.2.2.2.2.2.2.2.2.2.2.2.2.2
theorem dAb_184 : fdq cX3_replaceAll 11 (.invokevirtual 81) 3 = true ∧ fdq cX3_replaceAll 14 (.ifCond .eq 7) 3 = true ∧ fdq cX3_replaceAll 17 (.iconst 0) 1 = true ∧ fdq cX3_replaceAll 18 (.goto 17) 3 = true ∧ fdq cX3_replaceAll 21 (.aload_n 0) 1 = true ∧ fdq cX3_replaceAll 22 (.iload_n 1) 1 = true ∧ fdq cX3_replaceAll 23 (.iconst 0) 1 = true ∧ fdq cX3_replaceAll 24 (.aload_n 0) 1 = true ∧ fdq cX3_replaceAll 25 (.getfield 21) 3 = true ∧ fdq cX3_replaceAll 28 (.iload_n 1) 1 = true ∧ fdq cX3_replaceAll 29 (.iaload) 1 = true ∧ fdq cX3_replaceAll 30 (.iload_n 2) 1 = true ∧ fdq cX3_replaceAll 31 (.iload_n 3) 1 = true ∧ fdq cX3_replaceAll 32 (.invokevirtual 150) 3 = true ∧ fdq cX3_replaceAll 35 (.ireturn) 1 = true ∧ fdq cX3_replaceOld 0 (.aload_n 0) 1 = true := by decide +kernel
theorem dX3_replaceAll_11 : decode cX3_replaceAll 11 = .ok (.invokevirtual 81, 3) := fdf dAb_184.1
theorem dX3_replaceAll_14 : decode cX3_replaceAll 14 = .ok (.ifCond .eq 7, 3) := fdf dAb_184.2.1
theorem dX3_replaceAll_17 : decode cX3_replaceAll 17 = .ok (.iconst 0, 1) := fdf dAb_184.2.2.1
theorem dX3_replaceAll_18 : decode cX3_replaceAll 18 = .ok (.goto 17, 3) := fdf dAb_184.2.2.2.1
theorem dX3_replaceAll_21 : decode cX3_replaceAll 21 = .ok (.aload_n 0, 1) := fdf dAb_184.2.2.2.2.1
theorem dX3_replaceAll_22 : decode cX3_replaceAll 22 = .ok (.iload_n 1, 1) := fdf dAb_184.2.2.2.2.2.1
theorem dX3_replaceAll_23 : decode cX3_replaceAll 23 = .ok (.iconst 0, 1) := fdf dAb_184.2.2.2.2.2.2.1
theorem dX3_replaceAll_24 : decode cX3_replaceAll 24 = .ok (.aload_n 0, 1) := fdf dAb_184.2.2.2.2.2.2.2.1
theorem dX3_replaceAll_25 : decode cX3_replaceAll 25 = .ok (.getfield 21, 3) := fdf dAb_184.2.2.2.2.2.2.2.2.1
theorem dX3_replaceAll_28 : decode cX3_replaceAll 28 = .ok (.iload_n 1, 1) := fdf dAb_184.2.2.2.2.2.2.2.2.2.1
theorem dX3_replaceAll_29 : decode cX3_replaceAll 29 = .ok (.iaload, 1) := fdf dAb_184.2.2.2.2.2.2.2.2.2.2.1
theorem dX3_replaceAll_30 : decode cX3_replaceAll 30 = .ok (.iload_n 2, 1) := fdf dAb_184.2.2.2.2.2.2.2.2.2.2.2.1
theorem dX3_replaceAll_31 : decode cX3_replaceAll 31 = .ok (.iload_n 3, 1) := fdf dAb_184.2.2.2.2.2.2.2.2.2.2.2.2.1
theorem dX3_replaceAll_32 : decode cX3_replaceAll 32 = .ok (.invokevirtual 150, 3) := fdf dAb_184.2.2.2.2.2.2.2.2.2.2.2.2.2.1
theorem dX3_replaceAll_35 : decode cX3_replaceAll 35 = .ok (.ireturn, 1) := fdf dAb_184.2.2.2.2.2.2.2.2.2.2.2.2.2.2.1
theorem dX3_replaceOld_0 : decode cX3_replaceOld 0 = .ok (.aload_n 0, 1) := fdf dAb_184.2.2.2.2.2.2.2.2.2.2.2.2.2.2.2
theorem dAb_185 : fdq cX3_replaceOld 1 (.aload_n 0) 1 = true ∧ fdq cX3_replaceOld 2 (.iload_n 1) 1 = true ∧ fdq cX3_replaceOld 3 (.invokevirtual 32) 3 = true ∧ fdq cX3_replaceOld 6 (.iload_n 2) 1 = true ∧ fdq cX3_replaceOld 7 (.invokestatic 89) 3 = true ∧ fdq cX3_replaceOld 10 (.ifCond .ne 10) 3 = true ∧ fdq cX3_replaceOld 13 (.iload_n 3) 1 = true ∧ fdq cX3_replaceOld 14 (.invokestatic 89) 3 = true ∧ fdq cX3_replaceOld 17 (.ifCond .eq 7) 3 = true ∧ fdq cX3_replaceOld 20 (.iconst 1) 1 = true ∧ fdq cX3_replaceOld 21 (.goto 4) 3 = true ∧ fdq cX3_replaceOld 24 (.iconst 0) 1 = true ∧ fdq cX3_replaceOld 25 (.invokevirtual 81) 3 = true ∧ fdq cX3_replaceOld 28 (.ifCond .eq 5) 3 = true ∧ fdq cX3_replaceOld 31 (.iconst 0) 1 = true ∧ fdq cX3_replaceOld 32 (.ireturn) 1 = true := by decide +kernel
theorem dX3_replaceOld_1 : decode cX3_replaceOld 1 = .ok (.aload_n 0, 1) := fdf dAb_185.1
theorem dX3_replaceOld_2 : decode cX3_replaceOld 2 = .ok (.iload_n 1, 1) := fdf dAb_185.2.1
theorem dX3_replaceOld_3 : decode cX3_replaceOld 3 = .ok (.invokevirtual 32, 3) := fdf dAb_185.2.2.1
theorem dX3_replaceOld_6 : decode cX3_replaceOld 6 = .ok (.iload_n 2, 1) := fdf dAb_185.2.2.2.1
theorem dX3_replaceOld_7 : decode cX3_replaceOld 7 = .ok (.invokestatic 89, 3) := fdf dAb_185.2.2.2.2.1
theorem dX3_replaceOld_10 : decode cX3_replaceOld 10 = .ok (.ifCond .ne 10, 3) := fdf dAb_185.2.2.2.2.2.1
theorem dX3_replaceOld_13 : decode cX3_replaceOld 13 = .ok (.iload_n 3, 1) := fdf dAb_185.2.2.2.2.2.2.1
theorem dX3_replaceOld_14 : decode cX3_replaceOld 14 = .ok (.invokestatic 89, 3) := fdf dAb_185.2.2.2.2.2.2.2.1
theorem dX3_replaceOld_17 : decode cX3_replaceOld 17 = .ok (.ifCond .eq 7, 3) := fdf dAb_185.2.2.2.2.2.2.2.2.1
theorem dX3_replaceOld_20 : decode cX3_replaceOld 20 = .ok (.iconst 1, 1) := fdf dAb_185.2.2.2.2.2.2.2.2.2.1
theorem dX3_replaceOld_21 : decode cX3_replaceOld 21 = .ok (.goto 4, 3) := fdf dAb_185.2.2.2.2.2.2.2.2.2.2.1
theorem dX3_replaceOld_24 : decode cX3_replaceOld 24 = .ok (.iconst 0, 1) := fdf dAb_185.2.2.2.2.2.2.2.2.2.2.2.1
theorem dX3_replaceOld_25 : decode cX3_replaceOld 25 = .ok (.invokevirtual 81, 3) := fdf dAb_185.2.2.2.2.2.2.2.2.2.2.2.2.1
theorem dX3_replaceOld_28 : decode cX3_replaceOld 28 = .ok (.ifCond .eq 5, 3) := fdf dAb_185.2.2.2.2.2.2.2.2.2.2.2.2.2.1
theorem dX3_replaceOld_31 : decode cX3_replaceOld 31 = .ok (.iconst 0, 1) := fdf dAb_185.2.2.2.2.2.2.2.2.2.2.2.2.2.2.1
theorem dX3_replaceOld_32 : decode cX3_replaceOld 32 = .ok (.ireturn, 1) := fdf dAb_185.2.2.2.2.2.2.2.2.2.2.2.2.2.2.2
theorem dAb_186 : fdq cX3_replaceOld 33 (.aload_n 0) 1 = true ∧ fdq cX3_replaceOld 34 (.iload_n 1) 1 = true ∧ fdq cX3_replaceOld 35 (.invokevirtual 95) 3 = true ∧ fdq cX3_replaceOld 38 (.astore 4) 2 = true ∧ fdq cX3_replaceOld 40 (.aload 4) 2 = true ∧ fdq cX3_replaceOld 42 (.iload_n 2) 1 = true ∧ fdq cX3_replaceOld 43 (.invokestatic 119) 3 = true ∧ fdq cX3_replaceOld 46 (.istore 5) 2 = true ∧ fdq cX3_replaceOld 48 (.iconst 0) 1 = true ∧ fdq cX3_replaceOld 49 (.istore 6) 2 = true ∧ fdq cX3_replaceOld 51 (.iload 6) 2 = true ∧ fdq cX3_replaceOld 53 (.aload 4) 2 = true ∧ fdq cX3_replaceOld 55 (.arraylength) 1 = true ∧ fdq cX3_replaceOld 56 (.if_icmp .ge 32) 3 = true ∧ fdq cX3_replaceOld 59 (.aload 4) 2 = true ∧ fdq cX3_replaceOld 61 (.iload 6) 2 = true := by decide +kernel
theorem dX3_replaceOld_33 : decode cX3_replaceOld 33 = .ok (.aload_n 0, 1) := fdf dAb_186.1
theorem dX3_replaceOld_34 : decode cX3_replaceOld 34 = .ok (.iload_n 1, 1) := fdf dAb_186.2.1
theorem dX3_replaceOld_35 : decode cX3_replaceOld 35 = .ok (.invokevirtual 95, 3) := fdf dAb_186.2.2.1
theorem dX3_replaceOld_38 : decode cX3_replaceOld 38 = .ok (.astore 4, 2) := fdf dAb_186.2.2.2.1
theorem dX3_replaceOld_40 : decode cX3_replaceOld 40 = .ok (.aload 4, 2) := fdf dAb_186.2.2.2.2.1
theorem dX3_replaceOld_42 : decode cX3_replaceOld 42 = .ok (.iload_n 2, 1) := fdf dAb_186.2.2.2.2.2.1
theorem dX3_replaceOld_43 : decode cX3_replaceOld 43 = .ok (.invokestatic 119, 3) := fdf dAb_186.2.2.2.2.2.2.1
theorem dX3_replaceOld_46 : decode cX3_replaceOld 46 = .ok (.istore 5, 2) := fdf dAb_186.2.2.2.2.2.2.2.1
theorem dX3_replaceOld_48 : decode cX3_replaceOld 48 = .ok (.iconst 0, 1) := fdf dAb_186.2.2.2.2.2.2.2.2.1
theorem dX3_replaceOld_49 : decode cX3_replaceOld 49 = .ok (.istore 6, 2) := fdf dAb_186.2.2.2.2.2.2.2.2.2.1
theorem dX3_replaceOld_51 : decode cX3_replaceOld 51 = .ok (.iload 6, 2) := fdf dAb_186.2.2.2.2.2.2.2.2.2.2.1
theorem dX3_replaceOld_53 : decode cX3_replaceOld 53 = .ok (.aload 4, 2) := fdf dAb_186.2.2.2.2.2.2.2.2.2.2.2.1
theorem dX3_replaceOld_55 : decode cX3_replaceOld 55 = .ok (.arraylength, 1) := fdf dAb_186.2.2.2.2.2.2.2.2.2.2.2.2.1
theorem dX3_replaceOld_56 : decode cX3_replaceOld 56 = .ok (.if_icmp .ge 32, 3) := fdf dAb_186.2.2.2.2.2.2.2.2.2.2.2.2.2.1
theorem dX3_replaceOld_59 : decode cX3_replaceOld 59 = .ok (.aload 4, 2) := fdf dAb_186.2.2.2.2.2.2.2.2.2.2.2.2.2.2.1
theorem dX3_replaceOld_61 : decode cX3_replaceOld 61 = .ok (.iload 6, 2) := fdf dAb_186.2.2.2.2.2.2.2.2.2.2.2.2.2.2.2
theorem dAb_187 : fdq cX3_replaceOld 63 (.aload 4) 2 = true ∧ fdq cX3_replaceOld 65 (.iload 6) 2 = true ∧ fdq cX3_replaceOld 67 (.iaload) 1 = true ∧ fdq cX3_replaceOld 68 (.iload_n 2) 1 = true ∧ fdq cX3_replaceOld 69 (.if_icmp .ne 7) 3 = true ∧ fdq cX3_replaceOld 72 (.iload_n 3) 1 = true ∧ fdq cX3_replaceOld 73 (.goto 8) 3 = true ∧ fdq cX3_replaceOld 76 (.aload 4) 2 = true ∧ fdq cX3_replaceOld 78 (.iload 6) 2 = true ∧ fdq cX3_replaceOld 80 (.iaload) 1 = true ∧ fdq cX3_replaceOld 81 (.iastore) 1 = true ∧ fdq cX3_replaceOld 82 (.iinc 6 1) 3 = true ∧ fdq cX3_replaceOld 85 (.goto (-34)) 3 = true ∧ fdq cX3_replaceOld 88 (.aload_n 0) 1 = true ∧ fdq cX3_replaceOld 89 (.iload_n 1) 1 = true ∧ fdq cX3_replaceOld 90 (.aload 4) 2 = true := by decide +kernel
theorem dX3_replaceOld_63 : decode cX3_replaceOld 63 = .ok (.aload 4, 2) := fdf dAb_187.1
theorem dX3_replaceOld_65 : decode cX3_replaceOld 65 = .ok (.iload 6, 2) := fdf dAb_187.2.1
theorem dX3_replaceOld_67 : decode cX3_replaceOld 67 = .ok (.iaload, 1) := fdf dAb_187.2.2.1
theorem dX3_replaceOld_68 : decode cX3_replaceOld 68 = .ok (.iload_n 2, 1) := fdf dAb_187.2.2.2.1
theorem dX3_replaceOld_69 : decode cX3_replaceOld 69 = .ok (.if_icmp .ne 7, 3) := fdf dAb_187.2.2.2.2.1
theorem dX3_replaceOld_72 : decode cX3_replaceOld 72 = .ok (.iload_n 3, 1) := fdf dAb_187.2.2.2.2.2.1
theorem dX3_replaceOld_73 : decode cX3_replaceOld 73 = .ok (.goto 8, 3) := fdf dAb_187.2.2.2.2.2.2.1
theorem dX3_replaceOld_76 : decode cX3_replaceOld 76 = .ok (.aload 4, 2) := fdf dAb_187.2.2.2.2.2.2.2.1
theorem dX3_replaceOld_78 : decode cX3_replaceOld 78 = .ok (.iload 6, 2) := fdf dAb_187.2.2.2.2.2.2.2.2.1
theorem dX3_replaceOld_80 : decode cX3_replaceOld 80 = .ok (.iaload, 1) := fdf dAb_187.2.2.2.2.2.2.2.2.2.1
theorem dX3_replaceOld_81 : decode cX3_replaceOld 81 = .ok (.iastore, 1) := fdf dAb_187.2.2.2.2.2.2.2.2.2.2.1
theorem dX3_replaceOld_82 : decode cX3_replaceOld 82 = .ok (.iinc 6 1, 3) := fdf dAb_187.2.2.2.2.2.2.2.2.2.2.2.1
theorem dX3_replaceOld_85 : decode cX3_replaceOld 85 = .ok (.goto (-34), 3) := fdf dAb_187.2.2.2.2.2.2.2.2.2.2.2.2.1
theorem dX3_replaceOld_88 : decode cX3_replaceOld 88 = .ok (.aload_n 0, 1) := fdf dAb_187.2.2.2.2.2.2.2.2.2.2.2.2.2.1
theorem dX3_replaceOld_89 : decode cX3_replaceOld 89 = .ok (.iload_n 1, 1) := fdf dAb_187.2.2.2.2.2.2.2.2.2.2.2.2.2.2.1
theorem dX3_replaceOld_90 : decode cX3_replaceOld 90 = .ok (.aload 4, 2) := fdf dAb_187.2.2.2.2.2.2.2.2.2.2.2.2.2.2.2
theorem dAb_188 : fdq cX3_replaceOld 92 (.invokevirtual 154) 3 = true ∧ fdq cX3_replaceOld 95 (.iload 5) 2 = true ∧ fdq cX3_replaceOld 97 (.ifCond .le 7) 3 = true ∧ fdq cX3_replaceOld 100 (.iconst 1) 1 = true ∧ fdq cX3_replaceOld 101 (.goto 4) 3 = true ∧ fdq cX3_replaceOld 104 (.iconst 0) 1 = true ∧ fdq cX3_replaceOld 105 (.invokestatic 59) 3 = true ∧ fdq cX3_replaceOld 108 (.ireturn) 1 = true ∧ fdq cX3_fill 0 (.aload_n 0) 1 = true ∧ fdq cX3_fill 1 (.aload_n 0) 1 = true ∧ fdq cX3_fill 2 (.iload_n 1) 1 = true ∧ fdq cX3_fill 3 (.invokevirtual 32) 3 = true ∧ fdq cX3_fill 6 (.iload_n 2) 1 = true ∧ fdq cX3_fill 7 (.invokestatic 89) 3 = true ∧ fdq cX3_fill 10 (.invokevirtual 81) 3 = true ∧ fdq cX3_fill 13 (.ifCond .eq 5) 3 = true := by decide +kernel
theorem dX3_replaceOld_92 : decode cX3_replaceOld 92 = .ok (.invokevirtual 154, 3) := fdf dAb_188.1
theorem dX3_replaceOld_95 : decode cX3_replaceOld 95 = .ok (.iload 5, 2) := fdf dAb_188.2.1
theorem dX3_replaceOld_97 : decode cX3_replaceOld 97 = .ok (.ifCond .le 7, 3) := fdf dAb_188.2.2.1
theorem dX3_replaceOld_100 : decode cX3_replaceOld 100 = .ok (.iconst 1, 1) := fdf dAb_188.2.2.2.1
theorem dX3_replaceOld_101 : decode cX3_replaceOld 101 = .ok (.goto 4, 3) := fdf dAb_188.2.2.2.2.1
theorem dX3_replaceOld_104 : decode cX3_replaceOld 104 = .ok (.iconst 0, 1) := fdf dAb_188.2.2.2.2.2.1
theorem dX3_replaceOld_105 : decode cX3_replaceOld 105 = .ok (.invokestatic 59, 3) := fdf dAb_188.2.2.2.2.2.2.1
theorem dX3_replaceOld_108 : decode cX3_replaceOld 108 = .ok (.ireturn, 1) := fdf dAb_188.2.2.2.2.2.2.2.1
theorem dX3_fill_0 : decode cX3_fill 0 = .ok (.aload_n 0, 1) := fdf dAb_188.2.2.2.2.2.2.2.2.1
theorem dX3_fill_1 : decode cX3_fill 1 = .ok (.aload_n 0, 1) := fdf dAb_188.2.2.2.2.2.2.2.2.2.1
theorem dX3_fill_2 : decode cX3_fill 2 = .ok (.iload_n 1, 1) := fdf dAb_188.2.2.2.2.2.2.2.2.2.2.1
theorem dX3_fill_3 : decode cX3_fill 3 = .ok (.invokevirtual 32, 3) := fdf dAb_188.2.2.2.2.2.2.2.2.2.2.2.1
theorem dX3_fill_6 : decode cX3_fill 6 = .ok (.iload_n 2, 1) := fdf dAb_188.2.2.2.2.2.2.2.2.2.2.2.2.1
theorem dX3_fill_7 : decode cX3_fill 7 = .ok (.invokestatic 89, 3) := fdf dAb_188.2.2.2.2.2.2.2.2.2.2.2.2.2.1
theorem dX3_fill_10 : decode cX3_fill 10 = .ok (.invokevirtual 81, 3) := fdf dAb_188.2.2.2.2.2.2.2.2.2.2.2.2.2.2.1
theorem dX3_fill_13 : decode cX3_fill 13 = .ok (.ifCond .eq 5, 3) := fdf dAb_188.2.2.2.2.2.2.2.2.2.2.2.2.2.2.2
theorem dAb_189 : fdq cX3_fill 16 (.iconst 0) 1 = true ∧ fdq cX3_fill 17 (.ireturn) 1 = true ∧ fdq cX3_fill 18 (.iconst 0) 1 = true ∧ fdq cX3_fill 19 (.istore_n 3) 1 = true ∧ fdq cX3_fill 20 (.iload_n 3) 1 = true ∧ fdq cX3_fill 21 (.aload_n 0) 1 = true ∧ fdq cX3_fill 22 (.getfield 21) 3 = true ∧ fdq cX3_fill 25 (.iload_n 1) 1 = true ∧ fdq cX3_fill 26 (.iaload) 1 = true ∧ fdq cX3_fill 27 (.if_icmp .ge 16) 3 = true ∧ fdq cX3_fill 30 (.aload_n 0) 1 = true ∧ fdq cX3_fill 31 (.iload_n 1) 1 = true ∧ fdq cX3_fill 32 (.iload_n 3) 1 = true ∧ fdq cX3_fill 33 (.iload_n 2) 1 = true ∧ fdq cX3_fill 34 (.invokevirtual 40) 3 = true ∧ fdq cX3_fill 37 (.iinc 3 1) 3 = true := by decide +kernel
theorem dX3_fill_16 : decode cX3_fill 16 = .ok (.iconst 0, 1) := fdf dAb_189.1
theorem dX3_fill_17 : decode cX3_fill 17 = .ok (.ireturn, 1) := fdf dAb_189.2.1
theorem dX3_fill_18 : decode cX3_fill 18 = .ok (.iconst 0, 1) := fdf dAb_189.2.2.1
theorem dX3_fill_19 : decode cX3_fill 19 = .ok (.istore_n 3, 1) := fdf dAb_189.2.2.2.1
theorem dX3_fill_20 : decode cX3_fill 20 = .ok (.iload_n 3, 1) := fdf dAb_189.2.2.2.2.1
theorem dX3_fill_21 : decode cX3_fill 21 = .ok (.aload_n 0, 1) := fdf dAb_189.2.2.2.2.2.1
theorem dX3_fill_22 : decode cX3_fill 22 = .ok (.getfield 21, 3) := fdf dAb_189.2.2.2.2.2.2.1
theorem dX3_fill_25 : decode cX3_fill 25 = .ok (.iload_n 1, 1) := fdf dAb_189.2.2.2.2.2.2.2.1
theorem dX3_fill_26 : decode cX3_fill 26 = .ok (.iaload, 1) := fdf dAb_189.2.2.2.2.2.2.2.2.1
theorem dX3_fill_27 : decode cX3_fill 27 = .ok (.if_icmp .ge 16, 3) := fdf dAb_189.2.2.2.2.2.2.2.2.2.1
theorem dX3_fill_30 : decode cX3_fill 30 = .ok (.aload_n 0, 1) := fdf dAb_189.2.2.2.2.2.2.2.2.2.2.1
theorem dX3_fill_31 : decode cX3_fill 31 = .ok (.iload_n 1, 1) := fdf dAb_189.2.2.2.2.2.2.2.2.2.2.2.1
theorem dX3_fill_32 : decode cX3_fill 32 = .ok (.iload_n 3, 1) := fdf dAb_189.2.2.2.2.2.2.2.2.2.2.2.2.1
theorem dX3_fill_33 : decode cX3_fill 33 = .ok (.iload_n 2, 1) := fdf dAb_189.2.2.2.2.2.2.2.2.2.2.2.2.2.1
theorem dX3_fill_34 : decode cX3_fill 34 = .ok (.invokevirtual 40, 3) := fdf dAb_189.2.2.2.2.2.2.2.2.2.2.2.2.2.2.1
theorem dX3_fill_37 : decode cX3_fill 37 = .ok (.iinc 3 1, 3) := fdf dAb_189.2.2.2.2.2.2.2.2.2.2.2.2.2.2.2
theorem dAb_190 : fdq cX3_fill 40 (.goto (-20)) 3 = true ∧ fdq cX3_fill 43 (.aload_n 0) 1 = true ∧ fdq cX3_fill 44 (.getfield 21) 3 = true ∧ fdq cX3_fill 47 (.iload_n 1) 1 = true ∧ fdq cX3_fill 48 (.iaload) 1 = true ∧ fdq cX3_fill 49 (.ireturn) 1 = true ∧ fdq cX3_sort 0 (.aload_n 0) 1 = true ∧ fdq cX3_sort 1 (.iload_n 1) 1 = true ∧ fdq cX3_sort 2 (.iconst 0) 1 = true ∧ fdq cX3_sort 3 (.iconst 2) 1 = true ∧ fdq cX3_sort 4 (.invokestatic 24) 3 = true ∧ fdq cX3_sort 7 (.ifCond .ne 7) 3 = true ∧ fdq cX3_sort 10 (.iconst 1) 1 = true ∧ fdq cX3_sort 11 (.goto 4) 3 = true ∧ fdq cX3_sort 14 (.iconst 0) 1 = true ∧ fdq cX3_sort 15 (.iconst 0) 1 = true := by decide +kernel
theorem dX3_fill_40 : decode cX3_fill 40 = .ok (.goto (-20), 3) := fdf dAb_190.1
theorem dX3_fill_43 : decode cX3_fill 43 = .ok (.aload_n 0, 1) := fdf dAb_190.2.1
theorem dX3_fill_44 : decode cX3_fill 44 = .ok (.getfield 21, 3) := fdf dAb_190.2.2.1
theorem dX3_fill_47 : decode cX3_fill 47 = .ok (.iload_n 1, 1) := fdf dAb_190.2.2.2.1
theorem dX3_fill_48 : decode cX3_fill 48 = .ok (.iaload, 1) := fdf dAb_190.2.2.2.2.1
theorem dX3_fill_49 : decode cX3_fill 49 = .ok (.ireturn, 1) := fdf dAb_190.2.2.2.2.2.1
theorem dX3_sort_0 : decode cX3_sort 0 = .ok (.aload_n 0, 1) := fdf dAb_190.2.2.2.2.2.2.1
theorem dX3_sort_1 : decode cX3_sort 1 = .ok (.iload_n 1, 1) := fdf dAb_190.2.2.2.2.2.2.2.1
theorem dX3_sort_2 : decode cX3_sort 2 = .ok (.iconst 0, 1) := fdf dAb_190.2.2.2.2.2.2.2.2.1
theorem dX3_sort_3 : decode cX3_sort 3 = .ok (.iconst 2, 1) := fdf dAb_190.2.2.2.2.2.2.2.2.2.1
theorem dX3_sort_4 : decode cX3_sort 4 = .ok (.invokestatic 24, 3) := fdf dAb_190.2.2.2.2.2.2.2.2.2.2.1
theorem dX3_sort_7 : decode cX3_sort 7 = .ok (.ifCond .ne 7, 3) := fdf dAb_190.2.2.2.2.2.2.2.2.2.2.2.1
theorem dX3_sort_10 : decode cX3_sort 10 = .ok (.iconst 1, 1) := fdf dAb_190.2.2.2.2.2.2.2.2.2.2.2.2.1
theorem dX3_sort_11 : decode cX3_sort 11 = .ok (.goto 4, 3) := fdf dAb_190.2.2.2.2.2.2.2.2.2.2.2.2.2.1
theorem dX3_sort_14 : decode cX3_sort 14 = .ok (.iconst 0, 1) := fdf dAb_190.2.2.2.2.2.2.2.2.2.2.2.2.2.2.1
theorem dX3_sort_15 : decode cX3_sort 15 = .ok (.iconst 0, 1) := fdf dAb_190.2.2.2.2.2.2.2.2.2.2.2.2.2.2.2
theorem dAb_191 : fdq cX3_sort 16 (.invokevirtual 81) 3 = true ∧ fdq cX3_sort 19 (.ifCond .eq 5) 3 = true ∧ fdq cX3_sort 22 (.iconst 0) 1 = true ∧ fdq cX3_sort 23 (.ireturn) 1 = true ∧ fdq cX3_sort 24 (.aload_n 0) 1 = true ∧ fdq cX3_sort 25 (.iload_n 1) 1 = true ∧ fdq cX3_sort 26 (.invokevirtual 95) 3 = true ∧ fdq cX3_sort 29 (.astore_n 3) 1 = true ∧ fdq cX3_sort 30 (.iconst 0) 1 = true ∧ fdq cX3_sort 31 (.istore 4) 2 = true ∧ fdq cX3_sort 33 (.sipush (-1000)) 3 = true ∧ fdq cX3_sort 36 (.istore 5) 2 = true ∧ fdq cX3_sort 38 (.iload 5) 2 = true ∧ fdq cX3_sort 40 (.bipush 99) 2 = true ∧ fdq cX3_sort 42 (.if_icmp .gt 54) 3 = true ∧ fdq cX3_sort 45 (.aload_n 3) 1 = true := by decide +kernel
theorem dX3_sort_16 : decode cX3_sort 16 = .ok (.invokevirtual 81, 3) := fdf dAb_191.1
theorem dX3_sort_19 : decode cX3_sort 19 = .ok (.ifCond .eq 5, 3) := fdf dAb_191.2.1
theorem dX3_sort_22 : decode cX3_sort 22 = .ok (.iconst 0, 1) := fdf dAb_191.2.2.1
theorem dX3_sort_23 : decode cX3_sort 23 = .ok (.ireturn, 1) := fdf dAb_191.2.2.2.1
theorem dX3_sort_24 : decode cX3_sort 24 = .ok (.aload_n 0, 1) := fdf dAb_191.2.2.2.2.1
theorem dX3_sort_25 : decode cX3_sort 25 = .ok (.iload_n 1, 1) := fdf dAb_191.2.2.2.2.2.1
theorem dX3_sort_26 : decode cX3_sort 26 = .ok (.invokevirtual 95, 3) := fdf dAb_191.2.2.2.2.2.2.1
theorem dX3_sort_29 : decode cX3_sort 29 = .ok (.astore_n 3, 1) := fdf dAb_191.2.2.2.2.2.2.2.1
theorem dX3_sort_30 : decode cX3_sort 30 = .ok (.iconst 0, 1) := fdf dAb_191.2.2.2.2.2.2.2.2.1
theorem dX3_sort_31 : decode cX3_sort 31 = .ok (.istore 4, 2) := fdf dAb_191.2.2.2.2.2.2.2.2.2.1
theorem dX3_sort_33 : decode cX3_sort 33 = .ok (.sipush (-1000), 3) := fdf dAb_191.2.2.2.2.2.2.2.2.2.2.1
theorem dX3_sort_36 : decode cX3_sort 36 = .ok (.istore 5, 2) := fdf dAb_191.2.2.2.2.2.2.2.2.2.2.2.1
theorem dX3_sort_38 : decode cX3_sort 38 = .ok (.iload 5, 2) := fdf dAb_191.2.2.2.2.2.2.2.2.2.2.2.2.1
theorem dX3_sort_40 : decode cX3_sort 40 = .ok (.bipush 99, 2) := fdf dAb_191.2.2.2.2.2.2.2.2.2.2.2.2.2.1
theorem dX3_sort_42 : decode cX3_sort 42 = .ok (.if_icmp .gt 54, 3) := fdf dAb_191.2.2.2.2.2.2.2.2.2.2.2.2.2.2.1
theorem dX3_sort_45 : decode cX3_sort 45 = .ok (.aload_n 3, 1) := fdf dAb_191.2.2.2.2.2.2.2.2.2.2.2.2.2.2.2
theorem dAb_192 : fdq cX3_sort 46 (.iload 5) 2 = true ∧ fdq cX3_sort 48 (.invokestatic 119) 3 = true ∧ fdq cX3_sort 51 (.istore 6) 2 = true ∧ fdq cX3_sort 53 (.iload 6) 2 = true ∧ fdq cX3_sort 55 (.ifCond .le 35) 3 = true ∧ fdq cX3_sort 58 (.aload_n 0) 1 = true ∧ fdq cX3_sort 59 (.iload_n 1) 1 = true ∧ fdq cX3_sort 60 (.iload_n 2) 1 = true ∧ fdq cX3_sort 61 (.ifCond .eq 13) 3 = true ∧ fdq cX3_sort 64 (.aload_n 3) 1 = true ∧ fdq cX3_sort 65 (.arraylength) 1 = true ∧ fdq cX3_sort 66 (.iconst 1) 1 = true ∧ fdq cX3_sort 67 (.isub) 1 = true ∧ fdq cX3_sort 68 (.iload 4) 2 = true ∧ fdq cX3_sort 70 (.isub) 1 = true ∧ fdq cX3_sort 71 (.goto 5) 3 = true := by decide +kernel
theorem dX3_sort_46 : decode cX3_sort 46 = .ok (.iload 5, 2) := fdf dAb_192.1
theorem dX3_sort_48 : decode cX3_sort 48 = .ok (.invokestatic 119, 3) := fdf dAb_192.2.1
theorem dX3_sort_51 : decode cX3_sort 51 = .ok (.istore 6, 2) := fdf dAb_192.2.2.1
theorem dX3_sort_53 : decode cX3_sort 53 = .ok (.iload 6, 2) := fdf dAb_192.2.2.2.1
theorem dX3_sort_55 : decode cX3_sort 55 = .ok (.ifCond .le 35, 3) := fdf dAb_192.2.2.2.2.1
theorem dX3_sort_58 : decode cX3_sort 58 = .ok (.aload_n 0, 1) := fdf dAb_192.2.2.2.2.2.1
theorem dX3_sort_59 : decode cX3_sort 59 = .ok (.iload_n 1, 1) := fdf dAb_192.2.2.2.2.2.2.1
theorem dX3_sort_60 : decode cX3_sort 60 = .ok (.iload_n 2, 1) := fdf dAb_192.2.2.2.2.2.2.2.1
theorem dX3_sort_61 : decode cX3_sort 61 = .ok (.ifCond .eq 13, 3) := fdf dAb_192.2.2.2.2.2.2.2.2.1
theorem dX3_sort_64 : decode cX3_sort 64 = .ok (.aload_n 3, 1) := fdf dAb_192.2.2.2.2.2.2.2.2.2.1
theorem dX3_sort_65 : decode cX3_sort 65 = .ok (.arraylength, 1) := fdf dAb_192.2.2.2.2.2.2.2.2.2.2.1
theorem dX3_sort_66 : decode cX3_sort 66 = .ok (.iconst 1, 1) := fdf dAb_192.2.2.2.2.2.2.2.2.2.2.2.1
theorem dX3_sort_67 : decode cX3_sort 67 = .ok (.isub, 1) := fdf dAb_192.2.2.2.2.2.2.2.2.2.2.2.2.1
theorem dX3_sort_68 : decode cX3_sort 68 = .ok (.iload 4, 2) := fdf dAb_192.2.2.2.2.2.2.2.2.2.2.2.2.2.1
theorem dX3_sort_70 : decode cX3_sort 70 = .ok (.isub, 1) := fdf dAb_192.2.2.2.2.2.2.2.2.2.2.2.2.2.2.1
theorem dX3_sort_71 : decode cX3_sort 71 = .ok (.goto 5, 3) := fdf dAb_192.2.2.2.2.2.2.2.2.2.2.2.2.2.2.2
theorem dAb_193 : fdq cX3_sort 74 (.iload 4) 2 = true ∧ fdq cX3_sort 76 (.iload 5) 2 = true ∧ fdq cX3_sort 78 (.invokevirtual 40) 3 = true ∧ fdq cX3_sort 81 (.iinc 4 1) 3 = true ∧ fdq cX3_sort 84 (.iinc 6 (-1)) 3 = true ∧ fdq cX3_sort 87 (.goto (-34)) 3 = true ∧ fdq cX3_sort 90 (.iinc 5 1) 3 = true ∧ fdq cX3_sort 93 (.goto (-55)) 3 = true ∧ fdq cX3_sort 96 (.aload_n 3) 1 = true ∧ fdq cX3_sort 97 (.arraylength) 1 = true ∧ fdq cX3_sort 98 (.ireturn) 1 = true ∧ fdq cX3_reverse 0 (.aload_n 0) 1 = true ∧ fdq cX3_reverse 1 (.aload_n 0) 1 = true ∧ fdq cX3_reverse 2 (.iload_n 1) 1 = true ∧ fdq cX3_reverse 3 (.invokevirtual 32) 3 = true ∧ fdq cX3_reverse 6 (.iconst 0) 1 = true := by decide +kernel
theorem dX3_sort_74 : decode cX3_sort 74 = .ok (.iload 4, 2) := fdf dAb_193.1
theorem dX3_sort_76 : decode cX3_sort 76 = .ok (.iload 5, 2) := fdf dAb_193.2.1
theorem dX3_sort_78 : decode cX3_sort 78 = .ok (.invokevirtual 40, 3) := fdf dAb_193.2.2.1
theorem dX3_sort_81 : decode cX3_sort 81 = .ok (.iinc 4 1, 3) := fdf dAb_193.2.2.2.1
theorem dX3_sort_84 : decode cX3_sort 84 = .ok (.iinc 6 (-1), 3) := fdf dAb_193.2.2.2.2.1
theorem dX3_sort_87 : decode cX3_sort 87 = .ok (.goto (-34), 3) := fdf dAb_193.2.2.2.2.2.1
theorem dX3_sort_90 : decode cX3_sort 90 = .ok (.iinc 5 1, 3) := fdf dAb_193.2.2.2.2.2.2.1
theorem dX3_sort_93 : decode cX3_sort 93 = .ok (.goto (-55), 3) := fdf dAb_193.2.2.2.2.2.2.2.1
theorem dX3_sort_96 : decode cX3_sort 96 = .ok (.aload_n 3, 1) := fdf dAb_193.2.2.2.2.2.2.2.2.1
theorem dX3_sort_97 : decode cX3_sort 97 = .ok (.arraylength, 1) := fdf dAb_193.2.2.2.2.2.2.2.2.2.1
theorem dX3_sort_98 : decode cX3_sort 98 = .ok (.ireturn, 1) := fdf dAb_193.2.2.2.2.2.2.2.2.2.2.1
theorem dX3_reverse_0 : decode cX3_reverse 0 = .ok (.aload_n 0, 1) := fdf dAb_193.2.2.2.2.2.2.2.2.2.2.2.1
theorem dX3_reverse_1 : decode cX3_reverse 1 = .ok (.aload_n 0, 1) := fdf dAb_193.2.2.2.2.2.2.2.2.2.2.2.2.1
theorem dX3_reverse_2 : decode cX3_reverse 2 = .ok (.iload_n 1, 1) := fdf dAb_193.2.2.2.2.2.2.2.2.2.2.2.2.2.1
theorem dX3_reverse_3 : decode cX3_reverse 3 = .ok (.invokevirtual 32, 3) := fdf dAb_193.2.2.2.2.2.2.2.2.2.2.2.2.2.2.1
theorem dX3_reverse_6 : decode cX3_reverse 6 = .ok (.iconst 0, 1) := fdf dAb_193.2.2.2.2.2.2.2.2.2.2.2.2.2.2.2
theorem dAb_194 : fdq cX3_reverse 7 (.invokevirtual 81) 3 = true ∧ fdq cX3_reverse 10 (.ifCond .eq 5) 3 = true ∧ fdq cX3_reverse 13 (.iconst 0) 1 = true ∧ fdq cX3_reverse 14 (.ireturn) 1 = true ∧ fdq cX3_reverse 15 (.aload_n 0) 1 = true ∧ fdq cX3_reverse 16 (.iload_n 1) 1 = true ∧ fdq cX3_reverse 17 (.invokevirtual 95) 3 = true ∧ fdq cX3_reverse 20 (.astore_n 2) 1 = true ∧ fdq cX3_reverse 21 (.iconst 0) 1 = true ∧ fdq cX3_reverse 22 (.istore_n 3) 1 = true ∧ fdq cX3_reverse 23 (.iload_n 3) 1 = true ∧ fdq cX3_reverse 24 (.aload_n 2) 1 = true ∧ fdq cX3_reverse 25 (.arraylength) 1 = true ∧ fdq cX3_reverse 26 (.if_icmp .ge 23) 3 = true ∧ fdq cX3_reverse 29 (.aload_n 0) 1 = true ∧ fdq cX3_reverse 30 (.iload_n 1) 1 = true := by decide +kernel
theorem dX3_reverse_7 : decode cX3_reverse 7 = .ok (.invokevirtual 81, 3) := fdf dAb_194.1
theorem dX3_reverse_10 : decode cX3_reverse 10 = .ok (.ifCond .eq 5, 3) := fdf dAb_194.2.1
theorem dX3_reverse_13 : decode cX3_reverse 13 = .ok (.iconst 0, 1) := fdf dAb_194.2.2.1
theorem dX3_reverse_14 : decode cX3_reverse 14 = .ok (.ireturn, 1) := fdf dAb_194.2.2.2.1
theorem dX3_reverse_15 : decode cX3_reverse 15 = .ok (.aload_n 0, 1) := fdf dAb_194.2.2.2.2.1
theorem dX3_reverse_16 : decode cX3_reverse 16 = .ok (.iload_n 1, 1) := fdf dAb_194.2.2.2.2.2.1
theorem dX3_reverse_17 : decode cX3_reverse 17 = .ok (.invokevirtual 95, 3) := fdf dAb_194.2.2.2.2.2.2.1
theorem dX3_reverse_20 : decode cX3_reverse 20 = .ok (.astore_n 2, 1) := fdf dAb_194.2.2.2.2.2.2.2.1
theorem dX3_reverse_21 : decode cX3_reverse 21 = .ok (.iconst 0, 1) := fdf dAb_194.2.2.2.2.2.2.2.2.1
theorem dX3_reverse_22 : decode cX3_reverse 22 = .ok (.istore_n 3, 1) := fdf dAb_194.2.2.2.2.2.2.2.2.2.1
theorem dX3_reverse_23 : decode cX3_reverse 23 = .ok (.iload_n 3, 1) := fdf dAb_194.2.2.2.2.2.2.2.2.2.2.1
theorem dX3_reverse_24 : decode cX3_reverse 24 = .ok (.aload_n 2, 1) := fdf dAb_194.2.2.2.2.2.2.2.2.2.2.2.1
theorem dX3_reverse_25 : decode cX3_reverse 25 = .ok (.arraylength, 1) := fdf dAb_194.2.2.2.2.2.2.2.2.2.2.2.2.1
theorem dX3_reverse_26 : decode cX3_reverse 26 = .ok (.if_icmp .ge 23, 3) := fdf dAb_194.2.2.2.2.2.2.2.2.2.2.2.2.2.1
theorem dX3_reverse_29 : decode cX3_reverse 29 = .ok (.aload_n 0, 1) := fdf dAb_194.2.2.2.2.2.2.2.2.2.2.2.2.2.2.1
theorem dX3_reverse_30 : decode cX3_reverse 30 = .ok (.iload_n 1, 1) := fdf dAb_194.2.2.2.2.2.2.2.2.2.2.2.2.2.2.2
theorem dAb_195 : fdq cX3_reverse 31 (.aload_n 2) 1 = true ∧ fdq cX3_reverse 32 (.arraylength) 1 = true ∧ fdq cX3_reverse 33 (.iconst 1) 1 = true ∧ fdq cX3_reverse 34 (.isub) 1 = true ∧ fdq cX3_reverse 35 (.iload_n 3) 1 = true ∧ fdq cX3_reverse 36 (.isub) 1 = true ∧ fdq cX3_reverse 37 (.aload_n 2) 1 = true ∧ fdq cX3_reverse 38 (.iload_n 3) 1 = true ∧ fdq cX3_reverse 39 (.iaload) 1 = true ∧ fdq cX3_reverse 40 (.invokevirtual 40) 3 = true ∧ fdq cX3_reverse 43 (.iinc 3 1) 3 = true ∧ fdq cX3_reverse 46 (.goto (-23)) 3 = true ∧ fdq cX3_reverse 49 (.aload_n 2) 1 = true ∧ fdq cX3_reverse 50 (.arraylength) 1 = true ∧ fdq cX3_reverse 51 (.ireturn) 1 = true ∧ fdq cX3_rotate 0 (.aload_n 0) 1 = true := by decide +kernel
theorem dX3_reverse_31 : decode cX3_reverse 31 = .ok (.aload_n 2, 1) := fdf dAb_195.1
theorem dX3_reverse_32 : decode cX3_reverse 32 = .ok (.arraylength, 1) := fdf dAb_195.2.1
theorem dX3_reverse_33 : decode cX3_reverse 33 = .ok (.iconst 1, 1) := fdf dAb_195.2.2.1
theorem dX3_reverse_34 : decode cX3_reverse 34 = .ok (.isub, 1) := fdf dAb_195.2.2.2.1
theorem dX3_reverse_35 : decode cX3_reverse 35 = .ok (.iload_n 3, 1) := fdf dAb_195.2.2.2.2.1
theorem dX3_reverse_36 : decode cX3_reverse 36 = .ok (.isub, 1) := fdf dAb_195.2.2.2.2.2.1
theorem dX3_reverse_37 : decode cX3_reverse 37 = .ok (.aload_n 2, 1) := fdf dAb_195.2.2.2.2.2.2.1
theorem dX3_reverse_38 : decode cX3_reverse 38 = .ok (.iload_n 3, 1) := fdf dAb_195.2.2.2.2.2.2.2.1
theorem dX3_reverse_39 : decode cX3_reverse 39 = .ok (.iaload, 1) := fdf dAb_195.2.2.2.2.2.2.2.2.1
theorem dX3_reverse_40 : decode cX3_reverse 40 = .ok (.invokevirtual 40, 3) := fdf dAb_195.2.2.2.2.2.2.2.2.2.1
theorem dX3_reverse_43 : decode cX3_reverse 43 = .ok (.iinc 3 1, 3) := fdf dAb_195.2.2.2.2.2.2.2.2.2.2.1
theorem dX3_reverse_46 : decode cX3_reverse 46 = .ok (.goto (-23), 3) := fdf dAb_195.2.2.2.2.2.2.2.2.2.2.2.1
theorem dX3_reverse_49 : decode cX3_reverse 49 = .ok (.aload_n 2, 1) := fdf dAb_195.2.2.2.2.2.2.2.2.2.2.2.2.1
theorem dX3_reverse_50 : decode cX3_reverse 50 = .ok (.arraylength, 1) := fdf dAb_195.2.2.2.2.2.2.2.2.2.2.2.2.2.1
theorem dX3_reverse_51 : decode cX3_reverse 51 = .ok (.ireturn, 1) := fdf dAb_195.2.2.2.2.2.2.2.2.2.2.2.2.2.2.1
theorem dX3_rotate_0 : decode cX3_rotate 0 = .ok (.aload_n 0, 1) := fdf dAb_195.2.2.2.2.2.2.2.2.2.2.2.2.2.2.2
theorem dAb_196 : fdq cX3_rotate 1 (.aload_n 0) 1 = true ∧ fdq cX3_rotate 2 (.iload_n 1) 1 = true ∧ fdq cX3_rotate 3 (.invokevirtual 32) 3 = true ∧ fdq cX3_rotate 6 (.iload_n 2) 1 = true ∧ fdq cX3_rotate 7 (.bipush (-99)) 2 = true ∧ fdq cX3_rotate 9 (.bipush 99) 2 = true ∧ fdq cX3_rotate 11 (.invokestatic 24) 3 = true ∧ fdq cX3_rotate 14 (.ifCond .ne 7) 3 = true ∧ fdq cX3_rotate 17 (.iconst 1) 1 = true ∧ fdq cX3_rotate 18 (.goto 4) 3 = true ∧ fdq cX3_rotate 21 (.iconst 0) 1 = true ∧ fdq cX3_rotate 22 (.invokevirtual 81) 3 = true ∧ fdq cX3_rotate 25 (.ifCond .eq 5) 3 = true ∧ fdq cX3_rotate 28 (.iconst 0) 1 = true ∧ fdq cX3_rotate 29 (.ireturn) 1 = true ∧ fdq cX3_rotate 30 (.aload_n 0) 1 = true := by decide +kernel
theorem dX3_rotate_1 : decode cX3_rotate 1 = .ok (.aload_n 0, 1) := fdf dAb_196.1
theorem dX3_rotate_2 : decode cX3_rotate 2 = .ok (.iload_n 1, 1) := fdf dAb_196.2.1
theorem dX3_rotate_3 : decode cX3_rotate 3 = .ok (.invokevirtual 32, 3) := fdf dAb_196.2.2.1
theorem dX3_rotate_6 : decode cX3_rotate 6 = .ok (.iload_n 2, 1) := fdf dAb_196.2.2.2.1
theorem dX3_rotate_7 : decode cX3_rotate 7 = .ok (.bipush (-99), 2) := fdf dAb_196.2.2.2.2.1
theorem dX3_rotate_9 : decode cX3_rotate 9 = .ok (.bipush 99, 2) := fdf dAb_196.2.2.2.2.2.1
theorem dX3_rotate_11 : decode cX3_rotate 11 = .ok (.invokestatic 24, 3) := fdf dAb_196.2.2.2.2.2.2.1
theorem dX3_rotate_14 : decode cX3_rotate 14 = .ok (.ifCond .ne 7, 3) := fdf dAb_196.2.2.2.2.2.2.2.1
theorem dX3_rotate_17 : decode cX3_rotate 17 = .ok (.iconst 1, 1) := fdf dAb_196.2.2.2.2.2.2.2.2.1
theorem dX3_rotate_18 : decode cX3_rotate 18 = .ok (.goto 4, 3) := fdf dAb_196.2.2.2.2.2.2.2.2.2.1
theorem dX3_rotate_21 : decode cX3_rotate 21 = .ok (.iconst 0, 1) := fdf dAb_196.2.2.2.2.2.2.2.2.2.2.1
theorem dX3_rotate_22 : decode cX3_rotate 22 = .ok (.invokevirtual 81, 3) := fdf dAb_196.2.2.2.2.2.2.2.2.2.2.2.1
theorem dX3_rotate_25 : decode cX3_rotate 25 = .ok (.ifCond .eq 5, 3) := fdf dAb_196.2.2.2.2.2.2.2.2.2.2.2.2.1
theorem dX3_rotate_28 : decode cX3_rotate 28 = .ok (.iconst 0, 1) := fdf dAb_196.2.2.2.2.2.2.2.2.2.2.2.2.2.1
theorem dX3_rotate_29 : decode cX3_rotate 29 = .ok (.ireturn, 1) := fdf dAb_196.2.2.2.2.2.2.2.2.2.2.2.2.2.2.1
theorem dX3_rotate_30 : decode cX3_rotate 30 = .ok (.aload_n 0, 1) := fdf dAb_196.2.2.2.2.2.2.2.2.2.2.2.2.2.2.2
theorem dAb_197 : fdq cX3_rotate 31 (.iload_n 1) 1 = true ∧ fdq cX3_rotate 32 (.invokevirtual 95) 3 = true ∧ fdq cX3_rotate 35 (.astore_n 3) 1 = true ∧ fdq cX3_rotate 36 (.iconst 0) 1 = true ∧ fdq cX3_rotate 37 (.istore 4) 2 = true ∧ fdq cX3_rotate 39 (.iload 4) 2 = true ∧ fdq cX3_rotate 41 (.aload_n 3) 1 = true ∧ fdq cX3_rotate 42 (.arraylength) 1 = true ∧ fdq cX3_rotate 43 (.if_icmp .ge 31) 3 = true ∧ fdq cX3_rotate 46 (.aload_n 0) 1 = true ∧ fdq cX3_rotate 47 (.iload_n 1) 1 = true ∧ fdq cX3_rotate 48 (.iload 4) 2 = true ∧ fdq cX3_rotate 50 (.iload_n 2) 1 = true ∧ fdq cX3_rotate 51 (.iadd) 1 = true ∧ fdq cX3_rotate 52 (.aload_n 3) 1 = true ∧ fdq cX3_rotate 53 (.arraylength) 1 = true := by decide +kernel
theorem dX3_rotate_31 : decode cX3_rotate 31 = .ok (.iload_n 1, 1) := fdf dAb_197.1
theorem dX3_rotate_32 : decode cX3_rotate 32 = .ok (.invokevirtual 95, 3) := fdf dAb_197.2.1
theorem dX3_rotate_35 : decode cX3_rotate 35 = .ok (.astore_n 3, 1) := fdf dAb_197.2.2.1
theorem dX3_rotate_36 : decode cX3_rotate 36 = .ok (.iconst 0, 1) := fdf dAb_197.2.2.2.1
theorem dX3_rotate_37 : decode cX3_rotate 37 = .ok (.istore 4, 2) := fdf dAb_197.2.2.2.2.1
theorem dX3_rotate_39 : decode cX3_rotate 39 = .ok (.iload 4, 2) := fdf dAb_197.2.2.2.2.2.1
theorem dX3_rotate_41 : decode cX3_rotate 41 = .ok (.aload_n 3, 1) := fdf dAb_197.2.2.2.2.2.2.1
theorem dX3_rotate_42 : decode cX3_rotate 42 = .ok (.arraylength, 1) := fdf dAb_197.2.2.2.2.2.2.2.1
theorem dX3_rotate_43 : decode cX3_rotate 43 = .ok (.if_icmp .ge 31, 3) := fdf dAb_197.2.2.2.2.2.2.2.2.1
theorem dX3_rotate_46 : decode cX3_rotate 46 = .ok (.aload_n 0, 1) := fdf dAb_197.2.2.2.2.2.2.2.2.2.1
theorem dX3_rotate_47 : decode cX3_rotate 47 = .ok (.iload_n 1, 1) := fdf dAb_197.2.2.2.2.2.2.2.2.2.2.1
theorem dX3_rotate_48 : decode cX3_rotate 48 = .ok (.iload 4, 2) := fdf dAb_197.2.2.2.2.2.2.2.2.2.2.2.1
theorem dX3_rotate_50 : decode cX3_rotate 50 = .ok (.iload_n 2, 1) := fdf dAb_197.2.2.2.2.2.2.2.2.2.2.2.2.1
theorem dX3_rotate_51 : decode cX3_rotate 51 = .ok (.iadd, 1) := fdf dAb_197.2.2.2.2.2.2.2.2.2.2.2.2.2.1
theorem dX3_rotate_52 : decode cX3_rotate 52 = .ok (.aload_n 3, 1) := fdf dAb_197.2.2.2.2.2.2.2.2.2.2.2.2.2.2.1
theorem dX3_rotate_53 : decode cX3_rotate 53 = .ok (.arraylength, 1) := fdf dAb_197.2.2.2.2.2.2.2.2.2.2.2.2.2.2.2
theorem dAb_198 : fdq cX3_rotate 54 (.irem) 1 = true ∧ fdq cX3_rotate 55 (.aload_n 3) 1 = true ∧ fdq cX3_rotate 56 (.arraylength) 1 = true ∧ fdq cX3_rotate 57 (.iadd) 1 = true ∧ fdq cX3_rotate 58 (.aload_n 3) 1 = true ∧ fdq cX3_rotate 59 (.arraylength) 1 = true ∧ fdq cX3_rotate 60 (.irem) 1 = true ∧ fdq cX3_rotate 61 (.aload_n 3) 1 = true ∧ fdq cX3_rotate 62 (.iload 4) 2 = true ∧ fdq cX3_rotate 64 (.iaload) 1 = true ∧ fdq cX3_rotate 65 (.invokevirtual 40) 3 = true ∧ fdq cX3_rotate 68 (.iinc 4 1) 3 = true ∧ fdq cX3_rotate 71 (.goto (-32)) 3 = true ∧ fdq cX3_rotate 74 (.aload_n 3) 1 = true ∧ fdq cX3_rotate 75 (.arraylength) 1 = true ∧ fdq cX3_rotate 76 (.ireturn) 1 = true := by decide +kernel
theorem dX3_rotate_54 : decode cX3_rotate 54 = .ok (.irem, 1) := fdf dAb_198.1
theorem dX3_rotate_55 : decode cX3_rotate 55 = .ok (.aload_n 3, 1) := fdf dAb_198.2.1
theorem dX3_rotate_56 : decode cX3_rotate 56 = .ok (.arraylength, 1) := fdf dAb_198.2.2.1
theorem dX3_rotate_57 : decode cX3_rotate 57 = .ok (.iadd, 1) := fdf dAb_198.2.2.2.1
theorem dX3_rotate_58 : decode cX3_rotate 58 = .ok (.aload_n 3, 1) := fdf dAb_198.2.2.2.2.1
theorem dX3_rotate_59 : decode cX3_rotate 59 = .ok (.arraylength, 1) := fdf dAb_198.2.2.2.2.2.1
theorem dX3_rotate_60 : decode cX3_rotate 60 = .ok (.irem, 1) := fdf dAb_198.2.2.2.2.2.2.1
theorem dX3_rotate_61 : decode cX3_rotate 61 = .ok (.aload_n 3, 1) := fdf dAb_198.2.2.2.2.2.2.2.1
theorem dX3_rotate_62 : decode cX3_rotate 62 = .ok (.iload 4, 2) := fdf dAb_198.2.2.2.2.2.2.2.2.1
theorem dX3_rotate_64 : decode cX3_rotate 64 = .ok (.iaload, 1) := fdf dAb_198.2.2.2.2.2.2.2.2.2.1
theorem dX3_rotate_65 : decode cX3_rotate 65 = .ok (.invokevirtual 40, 3) := fdf dAb_198.2.2.2.2.2.2.2.2.2.2.1
theorem dX3_rotate_68 : decode cX3_rotate 68 = .ok (.iinc 4 1, 3) := fdf dAb_198.2.2.2.2.2.2.2.2.2.2.2.1
theorem dX3_rotate_71 : decode cX3_rotate 71 = .ok (.goto (-32), 3) := fdf dAb_198.2.2.2.2.2.2.2.2.2.2.2.2.1
theorem dX3_rotate_74 : decode cX3_rotate 74 = .ok (.aload_n 3, 1) := fdf dAb_198.2.2.2.2.2.2.2.2.2.2.2.2.2.1
theorem dX3_rotate_75 : decode cX3_rotate 75 = .ok (.arraylength, 1) := fdf dAb_198.2.2.2.2.2.2.2.2.2.2.2.2.2.2.1
theorem dX3_rotate_76 : decode cX3_rotate 76 = .ok (.ireturn, 1) := fdf dAb_198.2.2.2.2.2.2.2.2.2.2.2.2.2.2.2
theorem dAb_199 : fdq cX3_swap 0 (.aload_n 0) 1 = true ∧ fdq cX3_swap 1 (.aload_n 0) 1 = true ∧ fdq cX3_swap 2 (.iload_n 1) 1 = true ∧ fdq cX3_swap 3 (.iload_n 2) 1 = true ∧ fdq cX3_swap 4 (.invokevirtual 92) 3 = true ∧ fdq cX3_swap 7 (.ifCond .ne 12) 3 = true ∧ fdq cX3_swap 10 (.aload_n 0) 1 = true ∧ fdq cX3_swap 11 (.iload_n 1) 1 = true ∧ fdq cX3_swap 12 (.iload_n 3) 1 = true ∧ fdq cX3_swap 13 (.invokevirtual 92) 3 = true ∧ fdq cX3_swap 16 (.ifCond .eq 7) 3 = true ∧ fdq cX3_swap 19 (.iconst 1) 1 = true ∧ fdq cX3_swap 20 (.goto 4) 3 = true ∧ fdq cX3_swap 23 (.iconst 0) 1 = true ∧ fdq cX3_swap 24 (.iconst 0) 1 = true ∧ fdq cX3_swap 25 (.invokevirtual 81) 3 = true := by decide +kernel
theorem dX3_swap_0 : decode cX3_swap 0 = .ok (.aload_n 0, 1) := fdf dAb_199.1
theorem dX3_swap_1 : decode cX3_swap 1 = .ok (.aload_n 0, 1) := fdf dAb_199.2.1
theorem dX3_swap_2 : decode cX3_swap 2 = .ok (.iload_n 1, 1) := fdf dAb_199.2.2.1
theorem dX3_swap_3 : decode cX3_swap 3 = .ok (.iload_n 2, 1) := fdf dAb_199.2.2.2.1
theorem dX3_swap_4 : decode cX3_swap 4 = .ok (.invokevirtual 92, 3) := fdf dAb_199.2.2.2.2.1
theorem dX3_swap_7 : decode cX3_swap 7 = .ok (.ifCond .ne 12, 3) := fdf dAb_199.2.2.2.2.2.1
theorem dX3_swap_10 : decode cX3_swap 10 = .ok (.aload_n 0, 1) := fdf dAb_199.2.2.2.2.2.2.1
theorem dX3_swap_11 : decode cX3_swap 11 = .ok (.iload_n 1, 1) := fdf dAb_199.2.2.2.2.2.2.2.1
theorem dX3_swap_12 : decode cX3_swap 12 = .ok (.iload_n 3, 1) := fdf dAb_199.2.2.2.2.2.2.2.2.1
theorem dX3_swap_13 : decode cX3_swap 13 = .ok (.invokevirtual 92, 3) := fdf dAb_199.2.2.2.2.2.2.2.2.2.1
theorem dX3_swap_16 : decode cX3_swap 16 = .ok (.ifCond .eq 7, 3) := fdf dAb_199.2.2.2.2.2.2.2.2.2.2.1
theorem dX3_swap_19 : decode cX3_swap 19 = .ok (.iconst 1, 1) := fdf dAb_199.2.2.2.2.2.2.2.2.2.2.2.1
theorem dX3_swap_20 : decode cX3_swap 20 = .ok (.goto 4, 3) := fdf dAb_199.2.2.2.2.2.2.2.2.2.2.2.2.1
theorem dX3_swap_23 : decode cX3_swap 23 = .ok (.iconst 0, 1) := fdf dAb_199.2.2.2.2.2.2.2.2.2.2.2.2.2.1
theorem dX3_swap_24 : decode cX3_swap 24 = .ok (.iconst 0, 1) := fdf dAb_199.2.2.2.2.2.2.2.2.2.2.2.2.2.2.1
theorem dX3_swap_25 : decode cX3_swap 25 = .ok (.invokevirtual 81, 3) := fdf dAb_199.2.2.2.2.2.2.2.2.2.2.2.2.2.2.2
theorem dAb_200 : fdq cX3_swap 28 (.ifCond .eq 5) 3 = true ∧ fdq cX3_swap 31 (.iconst 0) 1 = true ∧ fdq cX3_swap 32 (.ireturn) 1 = true ∧ fdq cX3_swap 33 (.aload_n 0) 1 = true ∧ fdq cX3_swap 34 (.iload_n 1) 1 = true ∧ fdq cX3_swap 35 (.iload_n 2) 1 = true ∧ fdq cX3_swap 36 (.invokevirtual 36) 3 = true ∧ fdq cX3_swap 39 (.istore 4) 2 = true ∧ fdq cX3_swap 41 (.aload_n 0) 1 = true ∧ fdq cX3_swap 42 (.iload_n 1) 1 = true ∧ fdq cX3_swap 43 (.iload_n 3) 1 = true ∧ fdq cX3_swap 44 (.invokevirtual 36) 3 = true ∧ fdq cX3_swap 47 (.istore 5) 2 = true ∧ fdq cX3_swap 49 (.aload_n 0) 1 = true ∧ fdq cX3_swap 50 (.iload_n 1) 1 = true ∧ fdq cX3_swap 51 (.iload_n 2) 1 = true := by decide +kernel
theorem dX3_swap_28 : decode cX3_swap 28 = .ok (.ifCond .eq 5, 3) := fdf dAb_200.1
theorem dX3_swap_31 : decode cX3_swap 31 = .ok (.iconst 0, 1) := fdf dAb_200.2.1
theorem dX3_swap_32 : decode cX3_swap 32 = .ok (.ireturn, 1) := fdf dAb_200.2.2.1
theorem dX3_swap_33 : decode cX3_swap 33 = .ok (.aload_n 0, 1) := fdf dAb_200.2.2.2.1
theorem dX3_swap_34 : decode cX3_swap 34 = .ok (.iload_n 1, 1) := fdf dAb_200.2.2.2.2.1
theorem dX3_swap_35 : decode cX3_swap 35 = .ok (.iload_n 2, 1) := fdf dAb_200.2.2.2.2.2.1
theorem dX3_swap_36 : decode cX3_swap 36 = .ok (.invokevirtual 36, 3) := fdf dAb_200.2.2.2.2.2.2.1
theorem dX3_swap_39 : decode cX3_swap 39 = .ok (.istore 4, 2) := fdf dAb_200.2.2.2.2.2.2.2.1
theorem dX3_swap_41 : decode cX3_swap 41 = .ok (.aload_n 0, 1) := fdf dAb_200.2.2.2.2.2.2.2.2.1
theorem dX3_swap_42 : decode cX3_swap 42 = .ok (.iload_n 1, 1) := fdf dAb_200.2.2.2.2.2.2.2.2.2.1
theorem dX3_swap_43 : decode cX3_swap 43 = .ok (.iload_n 3, 1) := fdf dAb_200.2.2.2.2.2.2.2.2.2.2.1
theorem dX3_swap_44 : decode cX3_swap 44 = .ok (.invokevirtual 36, 3) := fdf dAb_200.2.2.2.2.2.2.2.2.2.2.2.1
theorem dX3_swap_47 : decode cX3_swap 47 = .ok (.istore 5, 2) := fdf dAb_200.2.2.2.2.2.2.2.2.2.2.2.2.1
theorem dX3_swap_49 : decode cX3_swap 49 = .ok (.aload_n 0, 1) := fdf dAb_200.2.2.2.2.2.2.2.2.2.2.2.2.2.1
theorem dX3_swap_50 : decode cX3_swap 50 = .ok (.iload_n 1, 1) := fdf dAb_200.2.2.2.2.2.2.2.2.2.2.2.2.2.2.1
theorem dX3_swap_51 : decode cX3_swap 51 = .ok (.iload_n 2, 1) := fdf dAb_200.2.2.2.2.2.2.2.2.2.2.2.2.2.2.2
theorem dAb_201 : fdq cX3_swap 52 (.iload 5) 2 = true ∧ fdq cX3_swap 54 (.invokevirtual 40) 3 = true ∧ fdq cX3_swap 57 (.aload_n 0) 1 = true ∧ fdq cX3_swap 58 (.iload_n 1) 1 = true ∧ fdq cX3_swap 59 (.iload_n 3) 1 = true ∧ fdq cX3_swap 60 (.iload 4) 2 = true ∧ fdq cX3_swap 62 (.invokevirtual 40) 3 = true ∧ fdq cX3_swap 65 (.iload 4) 2 = true ∧ fdq cX3_swap 67 (.iload 5) 2 = true ∧ fdq cX3_swap 69 (.if_icmp .eq 7) 3 = true ∧ fdq cX3_swap 72 (.iconst 1) 1 = true ∧ fdq cX3_swap 73 (.goto 4) 3 = true ∧ fdq cX3_swap 76 (.iconst 0) 1 = true ∧ fdq cX3_swap 77 (.invokestatic 59) 3 = true ∧ fdq cX3_swap 80 (.ireturn) 1 = true ∧ fdq cX3_refusedIf 0 (.iload_n 1) 1 = true := by decide +kernel
theorem dX3_swap_52 : decode cX3_swap 52 = .ok (.iload 5, 2) := fdf dAb_201.1
theorem dX3_swap_54 : decode cX3_swap 54 = .ok (.invokevirtual 40, 3) := fdf dAb_201.2.1
theorem dX3_swap_57 : decode cX3_swap 57 = .ok (.aload_n 0, 1) := fdf dAb_201.2.2.1
theorem dX3_swap_58 : decode cX3_swap 58 = .ok (.iload_n 1, 1) := fdf dAb_201.2.2.2.1
theorem dX3_swap_59 : decode cX3_swap 59 = .ok (.iload_n 3, 1) := fdf dAb_201.2.2.2.2.1
theorem dX3_swap_60 : decode cX3_swap 60 = .ok (.iload 4, 2) := fdf dAb_201.2.2.2.2.2.1
theorem dX3_swap_62 : decode cX3_swap 62 = .ok (.invokevirtual 40, 3) := fdf dAb_201.2.2.2.2.2.2.1
theorem dX3_swap_65 : decode cX3_swap 65 = .ok (.iload 4, 2) := fdf dAb_201.2.2.2.2.2.2.2.1
theorem dX3_swap_67 : decode cX3_swap 67 = .ok (.iload 5, 2) := fdf dAb_201.2.2.2.2.2.2.2.2.1
theorem dX3_swap_69 : decode cX3_swap 69 = .ok (.if_icmp .eq 7, 3) := fdf dAb_201.2.2.2.2.2.2.2.2.2.1
theorem dX3_swap_72 : decode cX3_swap 72 = .ok (.iconst 1, 1) := fdf dAb_201.2.2.2.2.2.2.2.2.2.2.1
theorem dX3_swap_73 : decode cX3_swap 73 = .ok (.goto 4, 3) := fdf dAb_201.2.2.2.2.2.2.2.2.2.2.2.1
theorem dX3_swap_76 : decode cX3_swap 76 = .ok (.iconst 0, 1) := fdf dAb_201.2.2.2.2.2.2.2.2.2.2.2.2.1
theorem dX3_swap_77 : decode cX3_swap 77 = .ok (.invokestatic 59, 3) := fdf dAb_201.2.2.2.2.2.2.2.2.2.2.2.2.2.1
theorem dX3_swap_80 : decode cX3_swap 80 = .ok (.ireturn, 1) := fdf dAb_201.2.2.2.2.2.2.2.2.2.2.2.2.2.2.1
theorem dX3_refusedIf_0 : decode cX3_refusedIf 0 = .ok (.iload_n 1, 1) := fdf dAb_201.2.2.2.2.2.2.2.2.2.2.2.2.2.2.2
theorem dAb_202 : fdq cX3_refusedIf 1 (.ifCond .eq 10) 3 = true ∧ fdq cX3_refusedIf 4 (.aload_n 0) 1 = true ∧ fdq cX3_refusedIf 5 (.invokevirtual 158) 3 = true ∧ fdq cX3_refusedIf 8 (.goto 4) 3 = true ∧ fdq cX3_refusedIf 11 (.iconst 0) 1 = true ∧ fdq cX3_refusedIf 12 (.ireturn) 1 = true ∧ fdq cX3_add 0 (.aload_n 0) 1 = true ∧ fdq cX3_add 1 (.aload_n 0) 1 = true ∧ fdq cX3_add 2 (.iload_n 1) 1 = true ∧ fdq cX3_add 3 (.invokevirtual 32) 3 = true ∧ fdq cX3_add 6 (.iload_n 2) 1 = true ∧ fdq cX3_add 7 (.invokestatic 89) 3 = true ∧ fdq cX3_add 10 (.invokevirtual 81) 3 = true ∧ fdq cX3_add 13 (.ifCond .eq 7) 3 = true ∧ fdq cX3_add 16 (.iconst 0) 1 = true ∧ fdq cX3_add 17 (.goto 7) 3 = true := by decide +kernel
theorem dX3_refusedIf_1 : decode cX3_refusedIf 1 = .ok (.ifCond .eq 10, 3) := fdf dAb_202.1
theorem dX3_refusedIf_4 : decode cX3_refusedIf 4 = .ok (.aload_n 0, 1) := fdf dAb_202.2.1
theorem dX3_refusedIf_5 : decode cX3_refusedIf 5 = .ok (.invokevirtual 158, 3) := fdf dAb_202.2.2.1
theorem dX3_refusedIf_8 : decode cX3_refusedIf 8 = .ok (.goto 4, 3) := fdf dAb_202.2.2.2.1
theorem dX3_refusedIf_11 : decode cX3_refusedIf 11 = .ok (.iconst 0, 1) := fdf dAb_202.2.2.2.2.1
theorem dX3_refusedIf_12 : decode cX3_refusedIf 12 = .ok (.ireturn, 1) := fdf dAb_202.2.2.2.2.2.1
theorem dX3_add_0 : decode cX3_add 0 = .ok (.aload_n 0, 1) := fdf dAb_202.2.2.2.2.2.2.1
theorem dX3_add_1 : decode cX3_add 1 = .ok (.aload_n 0, 1) := fdf dAb_202.2.2.2.2.2.2.2.1
theorem dX3_add_2 : decode cX3_add 2 = .ok (.iload_n 1, 1) := fdf dAb_202.2.2.2.2.2.2.2.2.1
theorem dX3_add_3 : decode cX3_add 3 = .ok (.invokevirtual 32, 3) := fdf dAb_202.2.2.2.2.2.2.2.2.2.1
theorem dX3_add_6 : decode cX3_add 6 = .ok (.iload_n 2, 1) := fdf dAb_202.2.2.2.2.2.2.2.2.2.2.1
theorem dX3_add_7 : decode cX3_add 7 = .ok (.invokestatic 89, 3) := fdf dAb_202.2.2.2.2.2.2.2.2.2.2.2.1
theorem dX3_add_10 : decode cX3_add 10 = .ok (.invokevirtual 81, 3) := fdf dAb_202.2.2.2.2.2.2.2.2.2.2.2.2.1
theorem dX3_add_13 : decode cX3_add 13 = .ok (.ifCond .eq 7, 3) := fdf dAb_202.2.2.2.2.2.2.2.2.2.2.2.2.2.1
theorem dX3_add_16 : decode cX3_add 16 = .ok (.iconst 0, 1) := fdf dAb_202.2.2.2.2.2.2.2.2.2.2.2.2.2.2.1
theorem dX3_add_17 : decode cX3_add 17 = .ok (.goto 7, 3) := fdf dAb_202.2.2.2.2.2.2.2.2.2.2.2.2.2.2.2
theorem dAb_203 : fdq cX3_add 20 (.aload_n 0) 1 = true ∧ fdq cX3_add 21 (.invokevirtual 158) 3 = true ∧ fdq cX3_add 24 (.ireturn) 1 = true ∧ fdq cX3_addAt 0 (.aload_n 0) 1 = true ∧ fdq cX3_addAt 1 (.aload_n 0) 1 = true ∧ fdq cX3_addAt 2 (.iload_n 1) 1 = true ∧ fdq cX3_addAt 3 (.invokevirtual 32) 3 = true ∧ fdq cX3_addAt 6 (.aload_n 0) 1 = true ∧ fdq cX3_addAt 7 (.iload_n 1) 1 = true ∧ fdq cX3_addAt 8 (.iload_n 2) 1 = true ∧ fdq cX3_addAt 9 (.invokevirtual 135) 3 = true ∧ fdq cX3_addAt 12 (.ifCond .ne 10) 3 = true ∧ fdq cX3_addAt 15 (.iload_n 3) 1 = true ∧ fdq cX3_addAt 16 (.invokestatic 89) 3 = true ∧ fdq cX3_addAt 19 (.ifCond .eq 7) 3 = true ∧ fdq cX3_addAt 22 (.iconst 1) 1 = true := by decide +kernel
theorem dX3_add_20 : decode cX3_add 20 = .ok (.aload_n 0, 1) := fdf dAb_203.1
theorem dX3_add_21 : decode cX3_add 21 = .ok (.invokevirtual 158, 3) := fdf dAb_203.2.1
theorem dX3_add_24 : decode cX3_add 24 = .ok (.ireturn, 1) := fdf dAb_203.2.2.1
theorem dX3_addAt_0 : decode cX3_addAt 0 = .ok (.aload_n 0, 1) := fdf dAb_203.2.2.2.1
theorem dX3_addAt_1 : decode cX3_addAt 1 = .ok (.aload_n 0, 1) := fdf dAb_203.2.2.2.2.1
theorem dX3_addAt_2 : decode cX3_addAt 2 = .ok (.iload_n 1, 1) := fdf dAb_203.2.2.2.2.2.1
theorem dX3_addAt_3 : decode cX3_addAt 3 = .ok (.invokevirtual 32, 3) := fdf dAb_203.2.2.2.2.2.2.1
theorem dX3_addAt_6 : decode cX3_addAt 6 = .ok (.aload_n 0, 1) := fdf dAb_203.2.2.2.2.2.2.2.1
theorem dX3_addAt_7 : decode cX3_addAt 7 = .ok (.iload_n 1, 1) := fdf dAb_203.2.2.2.2.2.2.2.2.1
theorem dX3_addAt_8 : decode cX3_addAt 8 = .ok (.iload_n 2, 1) := fdf dAb_203.2.2.2.2.2.2.2.2.2.1
theorem dX3_addAt_9 : decode cX3_addAt 9 = .ok (.invokevirtual 135, 3) := fdf dAb_203.2.2.2.2.2.2.2.2.2.2.1
theorem dX3_addAt_12 : decode cX3_addAt 12 = .ok (.ifCond .ne 10, 3) := fdf dAb_203.2.2.2.2.2.2.2.2.2.2.2.1
theorem dX3_addAt_15 : decode cX3_addAt 15 = .ok (.iload_n 3, 1) := fdf dAb_203.2.2.2.2.2.2.2.2.2.2.2.2.1
theorem dX3_addAt_16 : decode cX3_addAt 16 = .ok (.invokestatic 89, 3) := fdf dAb_203.2.2.2.2.2.2.2.2.2.2.2.2.2.1
theorem dX3_addAt_19 : decode cX3_addAt 19 = .ok (.ifCond .eq 7, 3) := fdf dAb_203.2.2.2.2.2.2.2.2.2.2.2.2.2.2.1
theorem dX3_addAt_22 : decode cX3_addAt 22 = .ok (.iconst 1, 1) := fdf dAb_203.2.2.2.2.2.2.2.2.2.2.2.2.2.2.2
theorem dAb_204 : fdq cX3_addAt 23 (.goto 4) 3 = true ∧ fdq cX3_addAt 26 (.iconst 0) 1 = true ∧ fdq cX3_addAt 27 (.invokevirtual 81) 3 = true ∧ fdq cX3_addAt 30 (.ifCond .eq 7) 3 = true ∧ fdq cX3_addAt 33 (.iconst 0) 1 = true ∧ fdq cX3_addAt 34 (.goto 7) 3 = true ∧ fdq cX3_addAt 37 (.aload_n 0) 1 = true ∧ fdq cX3_addAt 38 (.invokevirtual 158) 3 = true ∧ fdq cX3_addAt 41 (.ireturn) 1 = true ∧ fdq cX3_addAll 0 (.aload_n 0) 1 = true ∧ fdq cX3_addAll 1 (.aload_n 0) 1 = true ∧ fdq cX3_addAll 2 (.iload_n 1) 1 = true ∧ fdq cX3_addAll 3 (.iload_n 2) 1 = true ∧ fdq cX3_addAll 4 (.invokevirtual 122) 3 = true ∧ fdq cX3_addAll 7 (.iconst 0) 1 = true ∧ fdq cX3_addAll 8 (.invokevirtual 81) 3 = true := by decide +kernel
theorem dX3_addAt_23 : decode cX3_addAt 23 = .ok (.goto 4, 3) := fdf dAb_204.1
theorem dX3_addAt_26 : decode cX3_addAt 26 = .ok (.iconst 0, 1) := fdf dAb_204.2.1
theorem dX3_addAt_27 : decode cX3_addAt 27 = .ok (.invokevirtual 81, 3) := fdf dAb_204.2.2.1
theorem dX3_addAt_30 : decode cX3_addAt 30 = .ok (.ifCond .eq 7, 3) := fdf dAb_204.2.2.2.1
theorem dX3_addAt_33 : decode cX3_addAt 33 = .ok (.iconst 0, 1) := fdf dAb_204.2.2.2.2.1
theorem dX3_addAt_34 : decode cX3_addAt 34 = .ok (.goto 7, 3) := fdf dAb_204.2.2.2.2.2.1
theorem dX3_addAt_37 : decode cX3_addAt 37 = .ok (.aload_n 0, 1) := fdf dAb_204.2.2.2.2.2.2.1
theorem dX3_addAt_38 : decode cX3_addAt 38 = .ok (.invokevirtual 158, 3) := fdf dAb_204.2.2.2.2.2.2.2.1
theorem dX3_addAt_41 : decode cX3_addAt 41 = .ok (.ireturn, 1) := fdf dAb_204.2.2.2.2.2.2.2.2.1
theorem dX3_addAll_0 : decode cX3_addAll 0 = .ok (.aload_n 0, 1) := fdf dAb_204.2.2.2.2.2.2.2.2.2.1
theorem dX3_addAll_1 : decode cX3_addAll 1 = .ok (.aload_n 0, 1) := fdf dAb_204.2.2.2.2.2.2.2.2.2.2.1
theorem dX3_addAll_2 : decode cX3_addAll 2 = .ok (.iload_n 1, 1) := fdf dAb_204.2.2.2.2.2.2.2.2.2.2.2.1
theorem dX3_addAll_3 : decode cX3_addAll 3 = .ok (.iload_n 2, 1) := fdf dAb_204.2.2.2.2.2.2.2.2.2.2.2.2.1
theorem dX3_addAll_4 : decode cX3_addAll 4 = .ok (.invokevirtual 122, 3) := fdf dAb_204.2.2.2.2.2.2.2.2.2.2.2.2.2.1
theorem dX3_addAll_7 : decode cX3_addAll 7 = .ok (.iconst 0, 1) := fdf dAb_204.2.2.2.2.2.2.2.2.2.2.2.2.2.2.1
theorem dX3_addAll_8 : decode cX3_addAll 8 = .ok (.invokevirtual 81, 3) := fdf dAb_204.2.2.2.2.2.2.2.2.2.2.2.2.2.2.2
theorem dAb_205 : fdq cX3_addAll 11 (.ifCond .eq 7) 3 = true ∧ fdq cX3_addAll 14 (.iconst 0) 1 = true ∧ fdq cX3_addAll 15 (.goto 21) 3 = true ∧ fdq cX3_addAll 18 (.aload_n 0) 1 = true ∧ fdq cX3_addAll 19 (.aload_n 0) 1 = true ∧ fdq cX3_addAll 20 (.getfield 21) 3 = true ∧ fdq cX3_addAll 23 (.iload_n 2) 1 = true ∧ fdq cX3_addAll 24 (.iaload) 1 = true ∧ fdq cX3_addAll 25 (.ifCond .le 7) 3 = true ∧ fdq cX3_addAll 28 (.iconst 1) 1 = true ∧ fdq cX3_addAll 29 (.goto 4) 3 = true ∧ fdq cX3_addAll 32 (.iconst 0) 1 = true ∧ fdq cX3_addAll 33 (.invokevirtual 162) 3 = true ∧ fdq cX3_addAll 36 (.ireturn) 1 = true ∧ fdq cX3_remove 0 (.aload_n 0) 1 = true ∧ fdq cX3_remove 1 (.aload_n 0) 1 = true := by decide +kernel
theorem dX3_addAll_11 : decode cX3_addAll 11 = .ok (.ifCond .eq 7, 3) := fdf dAb_205.1
theorem dX3_addAll_14 : decode cX3_addAll 14 = .ok (.iconst 0, 1) := fdf dAb_205.2.1
theorem dX3_addAll_15 : decode cX3_addAll 15 = .ok (.goto 21, 3) := fdf dAb_205.2.2.1
theorem dX3_addAll_18 : decode cX3_addAll 18 = .ok (.aload_n 0, 1) := fdf dAb_205.2.2.2.1
theorem dX3_addAll_19 : decode cX3_addAll 19 = .ok (.aload_n 0, 1) := fdf dAb_205.2.2.2.2.1
theorem dX3_addAll_20 : decode cX3_addAll 20 = .ok (.getfield 21, 3) := fdf dAb_205.2.2.2.2.2.1
theorem dX3_addAll_23 : decode cX3_addAll 23 = .ok (.iload_n 2, 1) := fdf dAb_205.2.2.2.2.2.2.1
theorem dX3_addAll_24 : decode cX3_addAll 24 = .ok (.iaload, 1) := fdf dAb_205.2.2.2.2.2.2.2.1
theorem dX3_addAll_25 : decode cX3_addAll 25 = .ok (.ifCond .le 7, 3) := fdf dAb_205.2.2.2.2.2.2.2.2.1
theorem dX3_addAll_28 : decode cX3_addAll 28 = .ok (.iconst 1, 1) := fdf dAb_205.2.2.2.2.2.2.2.2.2.1
theorem dX3_addAll_29 : decode cX3_addAll 29 = .ok (.goto 4, 3) := fdf dAb_205.2.2.2.2.2.2.2.2.2.2.1
theorem dX3_addAll_32 : decode cX3_addAll 32 = .ok (.iconst 0, 1) := fdf dAb_205.2.2.2.2.2.2.2.2.2.2.2.1
theorem dX3_addAll_33 : decode cX3_addAll 33 = .ok (.invokevirtual 162, 3) := fdf dAb_205.2.2.2.2.2.2.2.2.2.2.2.2.1
theorem dX3_addAll_36 : decode cX3_addAll 36 = .ok (.ireturn, 1) := fdf dAb_205.2.2.2.2.2.2.2.2.2.2.2.2.2.1
theorem dX3_remove_0 : decode cX3_remove 0 = .ok (.aload_n 0, 1) := fdf dAb_205.2.2.2.2.2.2.2.2.2.2.2.2.2.2.1
theorem dX3_remove_1 : decode cX3_remove 1 = .ok (.aload_n 0, 1) := fdf dAb_205.2.2.2.2.2.2.2.2.2.2.2.2.2.2.2
theorem dAb_206 : fdq cX3_remove 2 (.iload_n 1) 1 = true ∧ fdq cX3_remove 3 (.iload_n 2) 1 = true ∧ fdq cX3_remove 4 (.invokevirtual 92) 3 = true ∧ fdq cX3_remove 7 (.iconst 0) 1 = true ∧ fdq cX3_remove 8 (.invokevirtual 81) 3 = true ∧ fdq cX3_remove 11 (.ifCond .eq 7) 3 = true ∧ fdq cX3_remove 14 (.iconst 0) 1 = true ∧ fdq cX3_remove 15 (.goto 7) 3 = true ∧ fdq cX3_remove 18 (.aload_n 0) 1 = true ∧ fdq cX3_remove 19 (.invokevirtual 158) 3 = true ∧ fdq cX3_remove 22 (.ireturn) 1 = true ∧ fdq cX3_removeValue 0 (.aload_n 0) 1 = true ∧ fdq cX3_removeValue 1 (.aload_n 0) 1 = true ∧ fdq cX3_removeValue 2 (.iload_n 1) 1 = true ∧ fdq cX3_removeValue 3 (.invokevirtual 32) 3 = true ∧ fdq cX3_removeValue 6 (.iload_n 2) 1 = true := by decide +kernel
theorem dX3_remove_2 : decode cX3_remove 2 = .ok (.iload_n 1, 1) := fdf dAb_206.1
theorem dX3_remove_3 : decode cX3_remove 3 = .ok (.iload_n 2, 1) := fdf dAb_206.2.1
theorem dX3_remove_4 : decode cX3_remove 4 = .ok (.invokevirtual 92, 3) := fdf dAb_206.2.2.1
theorem dX3_remove_7 : decode cX3_remove 7 = .ok (.iconst 0, 1) := fdf dAb_206.2.2.2.1
theorem dX3_remove_8 : decode cX3_remove 8 = .ok (.invokevirtual 81, 3) := fdf dAb_206.2.2.2.2.1
theorem dX3_remove_11 : decode cX3_remove 11 = .ok (.ifCond .eq 7, 3) := fdf dAb_206.2.2.2.2.2.1
theorem dX3_remove_14 : decode cX3_remove 14 = .ok (.iconst 0, 1) := fdf dAb_206.2.2.2.2.2.2.1
theorem dX3_remove_15 : decode cX3_remove 15 = .ok (.goto 7, 3) := fdf dAb_206.2.2.2.2.2.2.2.1
theorem dX3_remove_18 : decode cX3_remove 18 = .ok (.aload_n 0, 1) := fdf dAb_206.2.2.2.2.2.2.2.2.1
theorem dX3_remove_19 : decode cX3_remove 19 = .ok (.invokevirtual 158, 3) := fdf dAb_206.2.2.2.2.2.2.2.2.2.1
theorem dX3_remove_22 : decode cX3_remove 22 = .ok (.ireturn, 1) := fdf dAb_206.2.2.2.2.2.2.2.2.2.2.1
theorem dX3_removeValue_0 : decode cX3_removeValue 0 = .ok (.aload_n 0, 1) := fdf dAb_206.2.2.2.2.2.2.2.2.2.2.2.1
theorem dX3_removeValue_1 : decode cX3_removeValue 1 = .ok (.aload_n 0, 1) := fdf dAb_206.2.2.2.2.2.2.2.2.2.2.2.2.1
theorem dX3_removeValue_2 : decode cX3_removeValue 2 = .ok (.iload_n 1, 1) := fdf dAb_206.2.2.2.2.2.2.2.2.2.2.2.2.2.1
theorem dX3_removeValue_3 : decode cX3_removeValue 3 = .ok (.invokevirtual 32, 3) := fdf dAb_206.2.2.2.2.2.2.2.2.2.2.2.2.2.2.1
theorem dX3_removeValue_6 : decode cX3_removeValue 6 = .ok (.iload_n 2, 1) := fdf dAb_206.2.2.2.2.2.2.2.2.2.2.2.2.2.2.2
theorem dAb_207 : fdq cX3_removeValue 7 (.invokestatic 89) 3 = true ∧ fdq cX3_removeValue 10 (.invokevirtual 81) 3 = true ∧ fdq cX3_removeValue 13 (.ifCond .eq 7) 3 = true ∧ fdq cX3_removeValue 16 (.iconst 0) 1 = true ∧ fdq cX3_removeValue 17 (.goto 24) 3 = true ∧ fdq cX3_removeValue 20 (.aload_n 0) 1 = true ∧ fdq cX3_removeValue 21 (.aload_n 0) 1 = true ∧ fdq cX3_removeValue 22 (.iload_n 1) 1 = true ∧ fdq cX3_removeValue 23 (.invokevirtual 95) 3 = true ∧ fdq cX3_removeValue 26 (.iload_n 2) 1 = true ∧ fdq cX3_removeValue 27 (.invokestatic 119) 3 = true ∧ fdq cX3_removeValue 30 (.ifCond .le 7) 3 = true ∧ fdq cX3_removeValue 33 (.iconst 1) 1 = true ∧ fdq cX3_removeValue 34 (.goto 4) 3 = true ∧ fdq cX3_removeValue 37 (.iconst 0) 1 = true ∧ fdq cX3_removeValue 38 (.invokevirtual 162) 3 = true := by decide +kernel
theorem dX3_removeValue_7 : decode cX3_removeValue 7 = .ok (.invokestatic 89, 3) := fdf dAb_207.1
theorem dX3_removeValue_10 : decode cX3_removeValue 10 = .ok (.invokevirtual 81, 3) := fdf dAb_207.2.1
theorem dX3_removeValue_13 : decode cX3_removeValue 13 = .ok (.ifCond .eq 7, 3) := fdf dAb_207.2.2.1
theorem dX3_removeValue_16 : decode cX3_removeValue 16 = .ok (.iconst 0, 1) := fdf dAb_207.2.2.2.1
theorem dX3_removeValue_17 : decode cX3_removeValue 17 = .ok (.goto 24, 3) := fdf dAb_207.2.2.2.2.1
theorem dX3_removeValue_20 : decode cX3_removeValue 20 = .ok (.aload_n 0, 1) := fdf dAb_207.2.2.2.2.2.1
theorem dX3_removeValue_21 : decode cX3_removeValue 21 = .ok (.aload_n 0, 1) := fdf dAb_207.2.2.2.2.2.2.1
theorem dX3_removeValue_22 : decode cX3_removeValue 22 = .ok (.iload_n 1, 1) := fdf dAb_207.2.2.2.2.2.2.2.1
theorem dX3_removeValue_23 : decode cX3_removeValue 23 = .ok (.invokevirtual 95, 3) := fdf dAb_207.2.2.2.2.2.2.2.2.1
theorem dX3_removeValue_26 : decode cX3_removeValue 26 = .ok (.iload_n 2, 1) := fdf dAb_207.2.2.2.2.2.2.2.2.2.1
theorem dX3_removeValue_27 : decode cX3_removeValue 27 = .ok (.invokestatic 119, 3) := fdf dAb_207.2.2.2.2.2.2.2.2.2.2.1
theorem dX3_removeValue_30 : decode cX3_removeValue 30 = .ok (.ifCond .le 7, 3) := fdf dAb_207.2.2.2.2.2.2.2.2.2.2.2.1
theorem dX3_removeValue_33 : decode cX3_removeValue 33 = .ok (.iconst 1, 1) := fdf dAb_207.2.2.2.2.2.2.2.2.2.2.2.2.1
theorem dX3_removeValue_34 : decode cX3_removeValue 34 = .ok (.goto 4, 3) := fdf dAb_207.2.2.2.2.2.2.2.2.2.2.2.2.2.1
theorem dX3_removeValue_37 : decode cX3_removeValue 37 = .ok (.iconst 0, 1) := fdf dAb_207.2.2.2.2.2.2.2.2.2.2.2.2.2.2.1
theorem dX3_removeValue_38 : decode cX3_removeValue 38 = .ok (.invokevirtual 162, 3) := fdf dAb_207.2.2.2.2.2.2.2.2.2.2.2.2.2.2.2
theorem dAb_208 : fdq cX3_removeValue 41 (.ireturn) 1 = true ∧ fdq cX3_removeAll 0 (.aload_n 0) 1 = true ∧ fdq cX3_removeAll 1 (.aload_n 0) 1 = true ∧ fdq cX3_removeAll 2 (.iload_n 1) 1 = true ∧ fdq cX3_removeAll 3 (.iload_n 2) 1 = true ∧ fdq cX3_removeAll 4 (.invokevirtual 122) 3 = true ∧ fdq cX3_removeAll 7 (.iconst 0) 1 = true ∧ fdq cX3_removeAll 8 (.invokevirtual 81) 3 = true ∧ fdq cX3_removeAll 11 (.ifCond .eq 7) 3 = true ∧ fdq cX3_removeAll 14 (.iconst 0) 1 = true ∧ fdq cX3_removeAll 15 (.goto 21) 3 = true ∧ fdq cX3_removeAll 18 (.aload_n 0) 1 = true ∧ fdq cX3_removeAll 19 (.aload_n 0) 1 = true ∧ fdq cX3_removeAll 20 (.iload_n 1) 1 = true ∧ fdq cX3_removeAll 21 (.iload_n 2) 1 = true ∧ fdq cX3_removeAll 22 (.invokevirtual 125) 3 = true := by decide +kernel
theorem dX3_removeValue_41 : decode cX3_removeValue 41 = .ok (.ireturn, 1) := fdf dAb_208.1
theorem dX3_removeAll_0 : decode cX3_removeAll 0 = .ok (.aload_n 0, 1) := fdf dAb_208.2.1
theorem dX3_removeAll_1 : decode cX3_removeAll 1 = .ok (.aload_n 0, 1) := fdf dAb_208.2.2.1
theorem dX3_removeAll_2 : decode cX3_removeAll 2 = .ok (.iload_n 1, 1) := fdf dAb_208.2.2.2.1
theorem dX3_removeAll_3 : decode cX3_removeAll 3 = .ok (.iload_n 2, 1) := fdf dAb_208.2.2.2.2.1
theorem dX3_removeAll_4 : decode cX3_removeAll 4 = .ok (.invokevirtual 122, 3) := fdf dAb_208.2.2.2.2.2.1
theorem dX3_removeAll_7 : decode cX3_removeAll 7 = .ok (.iconst 0, 1) := fdf dAb_208.2.2.2.2.2.2.1
theorem dX3_removeAll_8 : decode cX3_removeAll 8 = .ok (.invokevirtual 81, 3) := fdf dAb_208.2.2.2.2.2.2.2.1
theorem dX3_removeAll_11 : decode cX3_removeAll 11 = .ok (.ifCond .eq 7, 3) := fdf dAb_208.2.2.2.2.2.2.2.2.1
theorem dX3_removeAll_14 : decode cX3_removeAll 14 = .ok (.iconst 0, 1) := fdf dAb_208.2.2.2.2.2.2.2.2.2.1
theorem dX3_removeAll_15 : decode cX3_removeAll 15 = .ok (.goto 21, 3) := fdf dAb_208.2.2.2.2.2.2.2.2.2.2.1
theorem dX3_removeAll_18 : decode cX3_removeAll 18 = .ok (.aload_n 0, 1) := fdf dAb_208.2.2.2.2.2.2.2.2.2.2.2.1
theorem dX3_removeAll_19 : decode cX3_removeAll 19 = .ok (.aload_n 0, 1) := fdf dAb_208.2.2.2.2.2.2.2.2.2.2.2.2.1
theorem dX3_removeAll_20 : decode cX3_removeAll 20 = .ok (.iload_n 1, 1) := fdf dAb_208.2.2.2.2.2.2.2.2.2.2.2.2.2.1
theorem dX3_removeAll_21 : decode cX3_removeAll 21 = .ok (.iload_n 2, 1) := fdf dAb_208.2.2.2.2.2.2.2.2.2.2.2.2.2.2.1
theorem dX3_removeAll_22 : decode cX3_removeAll 22 = .ok (.invokevirtual 125, 3) := fdf dAb_208.2.2.2.2.2.2.2.2.2.2.2.2.2.2.2
theorem dAb_209 : fdq cX3_removeAll 25 (.ifCond .le 7) 3 = true ∧ fdq cX3_removeAll 28 (.iconst 1) 1 = true ∧ fdq cX3_removeAll 29 (.goto 4) 3 = true ∧ fdq cX3_removeAll 32 (.iconst 0) 1 = true ∧ fdq cX3_removeAll 33 (.invokevirtual 162) 3 = true ∧ fdq cX3_removeAll 36 (.ireturn) 1 = true ∧ fdq cX3_retainAll 0 (.aload_n 0) 1 = true ∧ fdq cX3_retainAll 1 (.aload_n 0) 1 = true ∧ fdq cX3_retainAll 2 (.iload_n 1) 1 = true ∧ fdq cX3_retainAll 3 (.iload_n 2) 1 = true ∧ fdq cX3_retainAll 4 (.invokevirtual 122) 3 = true ∧ fdq cX3_retainAll 7 (.iconst 0) 1 = true ∧ fdq cX3_retainAll 8 (.invokevirtual 81) 3 = true ∧ fdq cX3_retainAll 11 (.ifCond .eq 7) 3 = true ∧ fdq cX3_retainAll 14 (.iconst 0) 1 = true ∧ fdq cX3_retainAll 15 (.goto 27) 3 = true := by decide +kernel
theorem dX3_removeAll_25 : decode cX3_removeAll 25 = .ok (.ifCond .le 7, 3) := fdf dAb_209.1
theorem dX3_removeAll_28 : decode cX3_removeAll 28 = .ok (.iconst 1, 1) := fdf dAb_209.2.1
theorem dX3_removeAll_29 : decode cX3_removeAll 29 = .ok (.goto 4, 3) := fdf dAb_209.2.2.1
theorem dX3_removeAll_32 : decode cX3_removeAll 32 = .ok (.iconst 0, 1) := fdf dAb_209.2.2.2.1
theorem dX3_removeAll_33 : decode cX3_removeAll 33 = .ok (.invokevirtual 162, 3) := fdf dAb_209.2.2.2.2.1
theorem dX3_removeAll_36 : decode cX3_removeAll 36 = .ok (.ireturn, 1) := fdf dAb_209.2.2.2.2.2.1
theorem dX3_retainAll_0 : decode cX3_retainAll 0 = .ok (.aload_n 0, 1) := fdf dAb_209.2.2.2.2.2.2.1
theorem dX3_retainAll_1 : decode cX3_retainAll 1 = .ok (.aload_n 0, 1) := fdf dAb_209.2.2.2.2.2.2.2.1
theorem dX3_retainAll_2 : decode cX3_retainAll 2 = .ok (.iload_n 1, 1) := fdf dAb_209.2.2.2.2.2.2.2.2.1
theorem dX3_retainAll_3 : decode cX3_retainAll 3 = .ok (.iload_n 2, 1) := fdf dAb_209.2.2.2.2.2.2.2.2.2.1
theorem dX3_retainAll_4 : decode cX3_retainAll 4 = .ok (.invokevirtual 122, 3) := fdf dAb_209.2.2.2.2.2.2.2.2.2.2.1
theorem dX3_retainAll_7 : decode cX3_retainAll 7 = .ok (.iconst 0, 1) := fdf dAb_209.2.2.2.2.2.2.2.2.2.2.2.1
theorem dX3_retainAll_8 : decode cX3_retainAll 8 = .ok (.invokevirtual 81, 3) := fdf dAb_209.2.2.2.2.2.2.2.2.2.2.2.2.1
theorem dX3_retainAll_11 : decode cX3_retainAll 11 = .ok (.ifCond .eq 7, 3) := fdf dAb_209.2.2.2.2.2.2.2.2.2.2.2.2.2.1
theorem dX3_retainAll_14 : decode cX3_retainAll 14 = .ok (.iconst 0, 1) := fdf dAb_209.2.2.2.2.2.2.2.2.2.2.2.2.2.2.1
theorem dX3_retainAll_15 : decode cX3_retainAll 15 = .ok (.goto 27, 3) := fdf dAb_209.2.2.2.2.2.2.2.2.2.2.2.2.2.2.2
theorem dAb_210 : fdq cX3_retainAll 18 (.aload_n 0) 1 = true ∧ fdq cX3_retainAll 19 (.aload_n 0) 1 = true ∧ fdq cX3_retainAll 20 (.iload_n 1) 1 = true ∧ fdq cX3_retainAll 21 (.iload_n 2) 1 = true ∧ fdq cX3_retainAll 22 (.invokevirtual 125) 3 = true ∧ fdq cX3_retainAll 25 (.aload_n 0) 1 = true ∧ fdq cX3_retainAll 26 (.getfield 21) 3 = true ∧ fdq cX3_retainAll 29 (.iload_n 1) 1 = true ∧ fdq cX3_retainAll 30 (.iaload) 1 = true ∧ fdq cX3_retainAll 31 (.if_icmp .ge 7) 3 = true ∧ fdq cX3_retainAll 34 (.iconst 1) 1 = true ∧ fdq cX3_retainAll 35 (.goto 4) 3 = true ∧ fdq cX3_retainAll 38 (.iconst 0) 1 = true ∧ fdq cX3_retainAll 39 (.invokevirtual 162) 3 = true ∧ fdq cX3_retainAll 42 (.ireturn) 1 = true ∧ fdq cX3_removeIf 0 (.aload_n 0) 1 = true := by decide +kernel
theorem dX3_retainAll_18 : decode cX3_retainAll 18 = .ok (.aload_n 0, 1) := fdf dAb_210.1
theorem dX3_retainAll_19 : decode cX3_retainAll 19 = .ok (.aload_n 0, 1) := fdf dAb_210.2.1
theorem dX3_retainAll_20 : decode cX3_retainAll 20 = .ok (.iload_n 1, 1) := fdf dAb_210.2.2.1
theorem dX3_retainAll_21 : decode cX3_retainAll 21 = .ok (.iload_n 2, 1) := fdf dAb_210.2.2.2.1
theorem dX3_retainAll_22 : decode cX3_retainAll 22 = .ok (.invokevirtual 125, 3) := fdf dAb_210.2.2.2.2.1
theorem dX3_retainAll_25 : decode cX3_retainAll 25 = .ok (.aload_n 0, 1) := fdf dAb_210.2.2.2.2.2.1
theorem dX3_retainAll_26 : decode cX3_retainAll 26 = .ok (.getfield 21, 3) := fdf dAb_210.2.2.2.2.2.2.1
theorem dX3_retainAll_29 : decode cX3_retainAll 29 = .ok (.iload_n 1, 1) := fdf dAb_210.2.2.2.2.2.2.2.1
theorem dX3_retainAll_30 : decode cX3_retainAll 30 = .ok (.iaload, 1) := fdf dAb_210.2.2.2.2.2.2.2.2.1
theorem dX3_retainAll_31 : decode cX3_retainAll 31 = .ok (.if_icmp .ge 7, 3) := fdf dAb_210.2.2.2.2.2.2.2.2.2.1
theorem dX3_retainAll_34 : decode cX3_retainAll 34 = .ok (.iconst 1, 1) := fdf dAb_210.2.2.2.2.2.2.2.2.2.2.1
theorem dX3_retainAll_35 : decode cX3_retainAll 35 = .ok (.goto 4, 3) := fdf dAb_210.2.2.2.2.2.2.2.2.2.2.2.1
theorem dX3_retainAll_38 : decode cX3_retainAll 38 = .ok (.iconst 0, 1) := fdf dAb_210.2.2.2.2.2.2.2.2.2.2.2.2.1
theorem dX3_retainAll_39 : decode cX3_retainAll 39 = .ok (.invokevirtual 162, 3) := fdf dAb_210.2.2.2.2.2.2.2.2.2.2.2.2.2.1
theorem dX3_retainAll_42 : decode cX3_retainAll 42 = .ok (.ireturn, 1) := fdf dAb_210.2.2.2.2.2.2.2.2.2.2.2.2.2.2.1
theorem dX3_removeIf_0 : decode cX3_removeIf 0 = .ok (.aload_n 0, 1) := fdf dAb_210.2.2.2.2.2.2.2.2.2.2.2.2.2.2.2
theorem dAb_211 : fdq cX3_removeIf 1 (.aload_n 0) 1 = true ∧ fdq cX3_removeIf 2 (.iload_n 1) 1 = true ∧ fdq cX3_removeIf 3 (.invokevirtual 32) 3 = true ∧ fdq cX3_removeIf 6 (.iload_n 2) 1 = true ∧ fdq cX3_removeIf 7 (.iconst 0) 1 = true ∧ fdq cX3_removeIf 8 (.iconst 2) 1 = true ∧ fdq cX3_removeIf 9 (.invokestatic 24) 3 = true ∧ fdq cX3_removeIf 12 (.ifCond .eq 14) 3 = true ∧ fdq cX3_removeIf 15 (.iload_n 3) 1 = true ∧ fdq cX3_removeIf 16 (.bipush (-99)) 2 = true ∧ fdq cX3_removeIf 18 (.bipush 99) 2 = true ∧ fdq cX3_removeIf 20 (.invokestatic 24) 3 = true ∧ fdq cX3_removeIf 23 (.ifCond .ne 7) 3 = true ∧ fdq cX3_removeIf 26 (.iconst 1) 1 = true ∧ fdq cX3_removeIf 27 (.goto 4) 3 = true ∧ fdq cX3_removeIf 30 (.iconst 0) 1 = true := by decide +kernel
theorem dX3_removeIf_1 : decode cX3_removeIf 1 = .ok (.aload_n 0, 1) := fdf dAb_211.1
theorem dX3_removeIf_2 : decode cX3_removeIf 2 = .ok (.iload_n 1, 1) := fdf dAb_211.2.1
theorem dX3_removeIf_3 : decode cX3_removeIf 3 = .ok (.invokevirtual 32, 3) := fdf dAb_211.2.2.1
theorem dX3_removeIf_6 : decode cX3_removeIf 6 = .ok (.iload_n 2, 1) := fdf dAb_211.2.2.2.1
theorem dX3_removeIf_7 : decode cX3_removeIf 7 = .ok (.iconst 0, 1) := fdf dAb_211.2.2.2.2.1
theorem dX3_removeIf_8 : decode cX3_removeIf 8 = .ok (.iconst 2, 1) := fdf dAb_211.2.2.2.2.2.1
theorem dX3_removeIf_9 : decode cX3_removeIf 9 = .ok (.invokestatic 24, 3) := fdf dAb_211.2.2.2.2.2.2.1
theorem dX3_removeIf_12 : decode cX3_removeIf 12 = .ok (.ifCond .eq 14, 3) := fdf dAb_211.2.2.2.2.2.2.2.1
theorem dX3_removeIf_15 : decode cX3_removeIf 15 = .ok (.iload_n 3, 1) := fdf dAb_211.2.2.2.2.2.2.2.2.1
theorem dX3_removeIf_16 : decode cX3_removeIf 16 = .ok (.bipush (-99), 2) := fdf dAb_211.2.2.2.2.2.2.2.2.2.1
theorem dX3_removeIf_18 : decode cX3_removeIf 18 = .ok (.bipush 99, 2) := fdf dAb_211.2.2.2.2.2.2.2.2.2.2.1
theorem dX3_removeIf_20 : decode cX3_removeIf 20 = .ok (.invokestatic 24, 3) := fdf dAb_211.2.2.2.2.2.2.2.2.2.2.2.1
theorem dX3_removeIf_23 : decode cX3_removeIf 23 = .ok (.ifCond .ne 7, 3) := fdf dAb_211.2.2.2.2.2.2.2.2.2.2.2.2.1
theorem dX3_removeIf_26 : decode cX3_removeIf 26 = .ok (.iconst 1, 1) := fdf dAb_211.2.2.2.2.2.2.2.2.2.2.2.2.2.1
theorem dX3_removeIf_27 : decode cX3_removeIf 27 = .ok (.goto 4, 3) := fdf dAb_211.2.2.2.2.2.2.2.2.2.2.2.2.2.2.1
theorem dX3_removeIf_30 : decode cX3_removeIf 30 = .ok (.iconst 0, 1) := fdf dAb_211.2.2.2.2.2.2.2.2.2.2.2.2.2.2.2
theorem dAb_212 : fdq cX3_removeIf 31 (.invokevirtual 81) 3 = true ∧ fdq cX3_removeIf 34 (.ifCond .eq 5) 3 = true ∧ fdq cX3_removeIf 37 (.iconst 0) 1 = true ∧ fdq cX3_removeIf 38 (.ireturn) 1 = true ∧ fdq cX3_removeIf 39 (.iconst 0) 1 = true ∧ fdq cX3_removeIf 40 (.istore 4) 2 = true ∧ fdq cX3_removeIf 42 (.aload_n 0) 1 = true ∧ fdq cX3_removeIf 43 (.iload_n 1) 1 = true ∧ fdq cX3_removeIf 44 (.invokevirtual 95) 3 = true ∧ fdq cX3_removeIf 47 (.astore 5) 2 = true ∧ fdq cX3_removeIf 49 (.aload 5) 2 = true ∧ fdq cX3_removeIf 51 (.arraylength) 1 = true ∧ fdq cX3_removeIf 52 (.istore 6) 2 = true ∧ fdq cX3_removeIf 54 (.iconst 0) 1 = true ∧ fdq cX3_removeIf 55 (.istore 7) 2 = true ∧ fdq cX3_removeIf 57 (.iload 7) 2 = true := by decide +kernel
theorem dX3_removeIf_31 : decode cX3_removeIf 31 = .ok (.invokevirtual 81, 3) := fdf dAb_212.1
theorem dX3_removeIf_34 : decode cX3_removeIf 34 = .ok (.ifCond .eq 5, 3) := fdf dAb_212.2.1
theorem dX3_removeIf_37 : decode cX3_removeIf 37 = .ok (.iconst 0, 1) := fdf dAb_212.2.2.1
theorem dX3_removeIf_38 : decode cX3_removeIf 38 = .ok (.ireturn, 1) := fdf dAb_212.2.2.2.1
theorem dX3_removeIf_39 : decode cX3_removeIf 39 = .ok (.iconst 0, 1) := fdf dAb_212.2.2.2.2.1
theorem dX3_removeIf_40 : decode cX3_removeIf 40 = .ok (.istore 4, 2) := fdf dAb_212.2.2.2.2.2.1
theorem dX3_removeIf_42 : decode cX3_removeIf 42 = .ok (.aload_n 0, 1) := fdf dAb_212.2.2.2.2.2.2.1
theorem dX3_removeIf_43 : decode cX3_removeIf 43 = .ok (.iload_n 1, 1) := fdf dAb_212.2.2.2.2.2.2.2.1
theorem dX3_removeIf_44 : decode cX3_removeIf 44 = .ok (.invokevirtual 95, 3) := fdf dAb_212.2.2.2.2.2.2.2.2.1
theorem dX3_removeIf_47 : decode cX3_removeIf 47 = .ok (.astore 5, 2) := fdf dAb_212.2.2.2.2.2.2.2.2.2.1
theorem dX3_removeIf_49 : decode cX3_removeIf 49 = .ok (.aload 5, 2) := fdf dAb_212.2.2.2.2.2.2.2.2.2.2.1
theorem dX3_removeIf_51 : decode cX3_removeIf 51 = .ok (.arraylength, 1) := fdf dAb_212.2.2.2.2.2.2.2.2.2.2.2.1
theorem dX3_removeIf_52 : decode cX3_removeIf 52 = .ok (.istore 6, 2) := fdf dAb_212.2.2.2.2.2.2.2.2.2.2.2.2.1
theorem dX3_removeIf_54 : decode cX3_removeIf 54 = .ok (.iconst 0, 1) := fdf dAb_212.2.2.2.2.2.2.2.2.2.2.2.2.2.1
theorem dX3_removeIf_55 : decode cX3_removeIf 55 = .ok (.istore 7, 2) := fdf dAb_212.2.2.2.2.2.2.2.2.2.2.2.2.2.2.1
theorem dX3_removeIf_57 : decode cX3_removeIf 57 = .ok (.iload 7, 2) := fdf dAb_212.2.2.2.2.2.2.2.2.2.2.2.2.2.2.2
theorem dAb_213 : fdq cX3_removeIf 59 (.iload 6) 2 = true ∧ fdq cX3_removeIf 61 (.if_icmp .ge 28) 3 = true ∧ fdq cX3_removeIf 64 (.aload 5) 2 = true ∧ fdq cX3_removeIf 66 (.iload 7) 2 = true ∧ fdq cX3_removeIf 68 (.iaload) 1 = true ∧ fdq cX3_removeIf 69 (.istore 8) 2 = true ∧ fdq cX3_removeIf 71 (.iload 4) 2 = true ∧ fdq cX3_removeIf 73 (.iload_n 2) 1 = true ∧ fdq cX3_removeIf 74 (.iload 8) 2 = true ∧ fdq cX3_removeIf 76 (.iload_n 3) 1 = true ∧ fdq cX3_removeIf 77 (.invokestatic 165) 3 = true ∧ fdq cX3_removeIf 80 (.ior) 1 = true ∧ fdq cX3_removeIf 81 (.istore 4) 2 = true ∧ fdq cX3_removeIf 83 (.iinc 7 1) 3 = true ∧ fdq cX3_removeIf 86 (.goto (-29)) 3 = true ∧ fdq cX3_removeIf 89 (.aload_n 0) 1 = true := by decide +kernel
theorem dX3_removeIf_59 : decode cX3_removeIf 59 = .ok (.iload 6, 2) := fdf dAb_213.1
theorem dX3_removeIf_61 : decode cX3_removeIf 61 = .ok (.if_icmp .ge 28, 3) := fdf dAb_213.2.1
theorem dX3_removeIf_64 : decode cX3_removeIf 64 = .ok (.aload 5, 2) := fdf dAb_213.2.2.1
theorem dX3_removeIf_66 : decode cX3_removeIf 66 = .ok (.iload 7, 2) := fdf dAb_213.2.2.2.1
theorem dX3_removeIf_68 : decode cX3_removeIf 68 = .ok (.iaload, 1) := fdf dAb_213.2.2.2.2.1
theorem dX3_removeIf_69 : decode cX3_removeIf 69 = .ok (.istore 8, 2) := fdf dAb_213.2.2.2.2.2.1
theorem dX3_removeIf_71 : decode cX3_removeIf 71 = .ok (.iload 4, 2) := fdf dAb_213.2.2.2.2.2.2.1
theorem dX3_removeIf_73 : decode cX3_removeIf 73 = .ok (.iload_n 2, 1) := fdf dAb_213.2.2.2.2.2.2.2.1
theorem dX3_removeIf_74 : decode cX3_removeIf 74 = .ok (.iload 8, 2) := fdf dAb_213.2.2.2.2.2.2.2.2.1
theorem dX3_removeIf_76 : decode cX3_removeIf 76 = .ok (.iload_n 3, 1) := fdf dAb_213.2.2.2.2.2.2.2.2.2.1
theorem dX3_removeIf_77 : decode cX3_removeIf 77 = .ok (.invokestatic 165, 3) := fdf dAb_213.2.2.2.2.2.2.2.2.2.2.1
theorem dX3_removeIf_80 : decode cX3_removeIf 80 = .ok (.ior, 1) := fdf dAb_213.2.2.2.2.2.2.2.2.2.2.2.1
theorem dX3_removeIf_81 : decode cX3_removeIf 81 = .ok (.istore 4, 2) := fdf dAb_213.2.2.2.2.2.2.2.2.2.2.2.2.1
theorem dX3_removeIf_83 : decode cX3_removeIf 83 = .ok (.iinc 7 1, 3) := fdf dAb_213.2.2.2.2.2.2.2.2.2.2.2.2.2.1
theorem dX3_removeIf_86 : decode cX3_removeIf 86 = .ok (.goto (-29), 3) := fdf dAb_213.2.2.2.2.2.2.2.2.2.2.2.2.2.2.1
theorem dX3_removeIf_89 : decode cX3_removeIf 89 = .ok (.aload_n 0, 1) := fdf dAb_213.2.2.2.2.2.2.2.2.2.2.2.2.2.2.2
theorem dAb_214 : fdq cX3_removeIf 90 (.iload 4) 2 = true ∧ fdq cX3_removeIf 92 (.invokevirtual 162) 3 = true ∧ fdq cX3_removeIf 95 (.ireturn) 1 = true ∧ fdq cX3_clear 0 (.aload_n 0) 1 = true ∧ fdq cX3_clear 1 (.aload_n 0) 1 = true ∧ fdq cX3_clear 2 (.iload_n 1) 1 = true ∧ fdq cX3_clear 3 (.invokevirtual 32) 3 = true ∧ fdq cX3_clear 6 (.iconst 0) 1 = true ∧ fdq cX3_clear 7 (.invokevirtual 81) 3 = true ∧ fdq cX3_clear 10 (.ifCond .eq 7) 3 = true ∧ fdq cX3_clear 13 (.iconst 0) 1 = true ∧ fdq cX3_clear 14 (.goto 21) 3 = true ∧ fdq cX3_clear 17 (.aload_n 0) 1 = true ∧ fdq cX3_clear 18 (.aload_n 0) 1 = true ∧ fdq cX3_clear 19 (.getfield 21) 3 = true ∧ fdq cX3_clear 22 (.iload_n 1) 1 = true := by decide +kernel
theorem dX3_removeIf_90 : decode cX3_removeIf 90 = .ok (.iload 4, 2) := fdf dAb_214.1
theorem dX3_removeIf_92 : decode cX3_removeIf 92 = .ok (.invokevirtual 162, 3) := fdf dAb_214.2.1
theorem dX3_removeIf_95 : decode cX3_removeIf 95 = .ok (.ireturn, 1) := fdf dAb_214.2.2.1
theorem dX3_clear_0 : decode cX3_clear 0 = .ok (.aload_n 0, 1) := fdf dAb_214.2.2.2.1
theorem dX3_clear_1 : decode cX3_clear 1 = .ok (.aload_n 0, 1) := fdf dAb_214.2.2.2.2.1
theorem dX3_clear_2 : decode cX3_clear 2 = .ok (.iload_n 1, 1) := fdf dAb_214.2.2.2.2.2.1
theorem dX3_clear_3 : decode cX3_clear 3 = .ok (.invokevirtual 32, 3) := fdf dAb_214.2.2.2.2.2.2.1
theorem dX3_clear_6 : decode cX3_clear 6 = .ok (.iconst 0, 1) := fdf dAb_214.2.2.2.2.2.2.2.1
theorem dX3_clear_7 : decode cX3_clear 7 = .ok (.invokevirtual 81, 3) := fdf dAb_214.2.2.2.2.2.2.2.2.1
theorem dX3_clear_10 : decode cX3_clear 10 = .ok (.ifCond .eq 7, 3) := fdf dAb_214.2.2.2.2.2.2.2.2.2.1
theorem dX3_clear_13 : decode cX3_clear 13 = .ok (.iconst 0, 1) := fdf dAb_214.2.2.2.2.2.2.2.2.2.2.1
theorem dX3_clear_14 : decode cX3_clear 14 = .ok (.goto 21, 3) := fdf dAb_214.2.2.2.2.2.2.2.2.2.2.2.1
theorem dX3_clear_17 : decode cX3_clear 17 = .ok (.aload_n 0, 1) := fdf dAb_214.2.2.2.2.2.2.2.2.2.2.2.2.1
theorem dX3_clear_18 : decode cX3_clear 18 = .ok (.aload_n 0, 1) := fdf dAb_214.2.2.2.2.2.2.2.2.2.2.2.2.2.1
theorem dX3_clear_19 : decode cX3_clear 19 = .ok (.getfield 21, 3) := fdf dAb_214.2.2.2.2.2.2.2.2.2.2.2.2.2.2.1
theorem dX3_clear_22 : decode cX3_clear 22 = .ok (.iload_n 1, 1) := fdf dAb_214.2.2.2.2.2.2.2.2.2.2.2.2.2.2.2
theorem dAb_215 : fdq cX3_clear 23 (.iaload) 1 = true ∧ fdq cX3_clear 24 (.ifCond .le 7) 3 = true ∧ fdq cX3_clear 27 (.iconst 1) 1 = true ∧ fdq cX3_clear 28 (.goto 4) 3 = true ∧ fdq cX3_clear 31 (.iconst 0) 1 = true ∧ fdq cX3_clear 32 (.invokevirtual 162) 3 = true ∧ fdq cX3_clear 35 (.ireturn) 1 = true ∧ fdq cX3_walkChange 0 (.aload_n 0) 1 = true ∧ fdq cX3_walkChange 1 (.aload_n 0) 1 = true ∧ fdq cX3_walkChange 2 (.iload_n 1) 1 = true ∧ fdq cX3_walkChange 3 (.iload_n 2) 1 = true ∧ fdq cX3_walkChange 4 (.invokevirtual 92) 3 = true ∧ fdq cX3_walkChange 7 (.iload_n 3) 1 = true ∧ fdq cX3_walkChange 8 (.iconst 0) 1 = true ∧ fdq cX3_walkChange 9 (.iconst 2) 1 = true ∧ fdq cX3_walkChange 10 (.invokestatic 24) 3 = true := by decide +kernel
theorem dX3_clear_23 : decode cX3_clear 23 = .ok (.iaload, 1) := fdf dAb_215.1
theorem dX3_clear_24 : decode cX3_clear 24 = .ok (.ifCond .le 7, 3) := fdf dAb_215.2.1
theorem dX3_clear_27 : decode cX3_clear 27 = .ok (.iconst 1, 1) := fdf dAb_215.2.2.1
theorem dX3_clear_28 : decode cX3_clear 28 = .ok (.goto 4, 3) := fdf dAb_215.2.2.2.1
theorem dX3_clear_31 : decode cX3_clear 31 = .ok (.iconst 0, 1) := fdf dAb_215.2.2.2.2.1
theorem dX3_clear_32 : decode cX3_clear 32 = .ok (.invokevirtual 162, 3) := fdf dAb_215.2.2.2.2.2.1
theorem dX3_clear_35 : decode cX3_clear 35 = .ok (.ireturn, 1) := fdf dAb_215.2.2.2.2.2.2.1
theorem dX3_walkChange_0 : decode cX3_walkChange 0 = .ok (.aload_n 0, 1) := fdf dAb_215.2.2.2.2.2.2.2.1
theorem dX3_walkChange_1 : decode cX3_walkChange 1 = .ok (.aload_n 0, 1) := fdf dAb_215.2.2.2.2.2.2.2.2.1
theorem dX3_walkChange_2 : decode cX3_walkChange 2 = .ok (.iload_n 1, 1) := fdf dAb_215.2.2.2.2.2.2.2.2.2.1
theorem dX3_walkChange_3 : decode cX3_walkChange 3 = .ok (.iload_n 2, 1) := fdf dAb_215.2.2.2.2.2.2.2.2.2.2.1
theorem dX3_walkChange_4 : decode cX3_walkChange 4 = .ok (.invokevirtual 92, 3) := fdf dAb_215.2.2.2.2.2.2.2.2.2.2.2.1
theorem dX3_walkChange_7 : decode cX3_walkChange 7 = .ok (.iload_n 3, 1) := fdf dAb_215.2.2.2.2.2.2.2.2.2.2.2.2.1
theorem dX3_walkChange_8 : decode cX3_walkChange 8 = .ok (.iconst 0, 1) := fdf dAb_215.2.2.2.2.2.2.2.2.2.2.2.2.2.1
theorem dX3_walkChange_9 : decode cX3_walkChange 9 = .ok (.iconst 2, 1) := fdf dAb_215.2.2.2.2.2.2.2.2.2.2.2.2.2.2.1
theorem dX3_walkChange_10 : decode cX3_walkChange 10 = .ok (.invokestatic 24, 3) := fdf dAb_215.2.2.2.2.2.2.2.2.2.2.2.2.2.2.2
theorem dAb_216 : fdq cX3_walkChange 13 (.ifCond .ne 7) 3 = true ∧ fdq cX3_walkChange 16 (.iconst 1) 1 = true ∧ fdq cX3_walkChange 17 (.goto 4) 3 = true ∧ fdq cX3_walkChange 20 (.iconst 0) 1 = true ∧ fdq cX3_walkChange 21 (.invokevirtual 81) 3 = true ∧ fdq cX3_walkChange 24 (.ifCond .eq 7) 3 = true ∧ fdq cX3_walkChange 27 (.iconst 0) 1 = true ∧ fdq cX3_walkChange 28 (.goto 7) 3 = true ∧ fdq cX3_walkChange 31 (.aload_n 0) 1 = true ∧ fdq cX3_walkChange 32 (.invokevirtual 158) 3 = true ∧ fdq cX3_walkChange 35 (.ireturn) 1 = true ∧ fdq cX3_knock 0 (.aload_n 0) 1 = true ∧ fdq cX3_knock 1 (.iconst 0) 1 = true ∧ fdq cX3_knock 2 (.putfield 28) 3 = true ∧ fdq cX3_knock 5 (.aload_n 0) 1 = true ∧ fdq cX3_knock 6 (.dup) 1 = true := by decide +kernel
theorem dX3_walkChange_13 : decode cX3_walkChange 13 = .ok (.ifCond .ne 7, 3) := fdf dAb_216.1
theorem dX3_walkChange_16 : decode cX3_walkChange 16 = .ok (.iconst 1, 1) := fdf dAb_216.2.1
theorem dX3_walkChange_17 : decode cX3_walkChange 17 = .ok (.goto 4, 3) := fdf dAb_216.2.2.1
theorem dX3_walkChange_20 : decode cX3_walkChange 20 = .ok (.iconst 0, 1) := fdf dAb_216.2.2.2.1
theorem dX3_walkChange_21 : decode cX3_walkChange 21 = .ok (.invokevirtual 81, 3) := fdf dAb_216.2.2.2.2.1
theorem dX3_walkChange_24 : decode cX3_walkChange 24 = .ok (.ifCond .eq 7, 3) := fdf dAb_216.2.2.2.2.2.1
theorem dX3_walkChange_27 : decode cX3_walkChange 27 = .ok (.iconst 0, 1) := fdf dAb_216.2.2.2.2.2.2.1
theorem dX3_walkChange_28 : decode cX3_walkChange 28 = .ok (.goto 7, 3) := fdf dAb_216.2.2.2.2.2.2.2.1
theorem dX3_walkChange_31 : decode cX3_walkChange 31 = .ok (.aload_n 0, 1) := fdf dAb_216.2.2.2.2.2.2.2.2.1
theorem dX3_walkChange_32 : decode cX3_walkChange 32 = .ok (.invokevirtual 158, 3) := fdf dAb_216.2.2.2.2.2.2.2.2.2.1
theorem dX3_walkChange_35 : decode cX3_walkChange 35 = .ok (.ireturn, 1) := fdf dAb_216.2.2.2.2.2.2.2.2.2.2.1
theorem dX3_knock_0 : decode cX3_knock 0 = .ok (.aload_n 0, 1) := fdf dAb_216.2.2.2.2.2.2.2.2.2.2.2.1
theorem dX3_knock_1 : decode cX3_knock 1 = .ok (.iconst 0, 1) := fdf dAb_216.2.2.2.2.2.2.2.2.2.2.2.2.1
theorem dX3_knock_2 : decode cX3_knock 2 = .ok (.putfield 28, 3) := fdf dAb_216.2.2.2.2.2.2.2.2.2.2.2.2.2.1
theorem dX3_knock_5 : decode cX3_knock 5 = .ok (.aload_n 0, 1) := fdf dAb_216.2.2.2.2.2.2.2.2.2.2.2.2.2.2.1
theorem dX3_knock_6 : decode cX3_knock 6 = .ok (.dup, 1) := fdf dAb_216.2.2.2.2.2.2.2.2.2.2.2.2.2.2.2
theorem dAb_217 : fdq cX3_knock 7 (.getfield 168) 3 = true ∧ fdq cX3_knock 10 (.iconst 1) 1 = true ∧ fdq cX3_knock 11 (.iadd) 1 = true ∧ fdq cX3_knock 12 (.putfield 168) 3 = true ∧ fdq cX3_knock 15 (.aload_n 0) 1 = true ∧ fdq cX3_knock 16 (.getfield 168) 3 = true ∧ fdq cX3_knock 19 (.ireturn) 1 = true ∧ fdq cX3_houseNow 0 (.iconst 0) 1 = true ∧ fdq cX3_houseNow 1 (.istore_n 2) 1 = true ∧ fdq cX3_houseNow 2 (.iconst 3) 1 = true ∧ fdq cX3_houseNow 3 (.istore_n 3) 1 = true ∧ fdq cX3_houseNow 4 (.iload_n 3) 1 = true ∧ fdq cX3_houseNow 5 (.bipush 7) 2 = true ∧ fdq cX3_houseNow 7 (.if_icmp .ge 30) 3 = true ∧ fdq cX3_houseNow 10 (.iload_n 2) 1 = true ∧ fdq cX3_houseNow 11 (.aload_n 0) 1 = true := by decide +kernel
theorem dX3_knock_7 : decode cX3_knock 7 = .ok (.getfield 168, 3) := fdf dAb_217.1
theorem dX3_knock_10 : decode cX3_knock 10 = .ok (.iconst 1, 1) := fdf dAb_217.2.1
theorem dX3_knock_11 : decode cX3_knock 11 = .ok (.iadd, 1) := fdf dAb_217.2.2.1
theorem dX3_knock_12 : decode cX3_knock 12 = .ok (.putfield 168, 3) := fdf dAb_217.2.2.2.1
theorem dX3_knock_15 : decode cX3_knock 15 = .ok (.aload_n 0, 1) := fdf dAb_217.2.2.2.2.1
theorem dX3_knock_16 : decode cX3_knock 16 = .ok (.getfield 168, 3) := fdf dAb_217.2.2.2.2.2.1
theorem dX3_knock_19 : decode cX3_knock 19 = .ok (.ireturn, 1) := fdf dAb_217.2.2.2.2.2.2.1
theorem dX3_houseNow_0 : decode cX3_houseNow 0 = .ok (.iconst 0, 1) := fdf dAb_217.2.2.2.2.2.2.2.1
theorem dX3_houseNow_1 : decode cX3_houseNow 1 = .ok (.istore_n 2, 1) := fdf dAb_217.2.2.2.2.2.2.2.2.1
theorem dX3_houseNow_2 : decode cX3_houseNow 2 = .ok (.iconst 3, 1) := fdf dAb_217.2.2.2.2.2.2.2.2.2.1
theorem dX3_houseNow_3 : decode cX3_houseNow 3 = .ok (.istore_n 3, 1) := fdf dAb_217.2.2.2.2.2.2.2.2.2.2.1
theorem dX3_houseNow_4 : decode cX3_houseNow 4 = .ok (.iload_n 3, 1) := fdf dAb_217.2.2.2.2.2.2.2.2.2.2.2.1
theorem dX3_houseNow_5 : decode cX3_houseNow 5 = .ok (.bipush 7, 2) := fdf dAb_217.2.2.2.2.2.2.2.2.2.2.2.2.1
theorem dX3_houseNow_7 : decode cX3_houseNow 7 = .ok (.if_icmp .ge 30, 3) := fdf dAb_217.2.2.2.2.2.2.2.2.2.2.2.2.2.1
theorem dX3_houseNow_10 : decode cX3_houseNow 10 = .ok (.iload_n 2, 1) := fdf dAb_217.2.2.2.2.2.2.2.2.2.2.2.2.2.2.1
theorem dX3_houseNow_11 : decode cX3_houseNow 11 = .ok (.aload_n 0, 1) := fdf dAb_217.2.2.2.2.2.2.2.2.2.2.2.2.2.2.2
theorem dAb_218 : fdq cX3_houseNow 12 (.getfield 15) 3 = true ∧ fdq cX3_houseNow 15 (.iload_n 3) 1 = true ∧ fdq cX3_houseNow 16 (.iaload) 1 = true ∧ fdq cX3_houseNow 17 (.iconst (-1)) 1 = true ∧ fdq cX3_houseNow 18 (.if_icmp .eq 7) 3 = true ∧ fdq cX3_houseNow 21 (.iconst 1) 1 = true ∧ fdq cX3_houseNow 22 (.goto 4) 3 = true ∧ fdq cX3_houseNow 25 (.iconst 0) 1 = true ∧ fdq cX3_houseNow 26 (.invokestatic 59) 3 = true ∧ fdq cX3_houseNow 29 (.iadd) 1 = true ∧ fdq cX3_houseNow 30 (.istore_n 2) 1 = true ∧ fdq cX3_houseNow 31 (.iinc 3 1) 3 = true ∧ fdq cX3_houseNow 34 (.goto (-30)) 3 = true ∧ fdq cX3_houseNow 37 (.iconst 4) 1 = true ∧ fdq cX3_houseNow 40 (.dup) 1 = true ∧ fdq cX3_houseNow 41 (.iconst 0) 1 = true := by decide +kernel
theorem dX3_houseNow_12 : decode cX3_houseNow 12 = .ok (.getfield 15, 3) := fdf dAb_218.1
theorem dX3_houseNow_15 : decode cX3_houseNow 15 = .ok (.iload_n 3, 1) := fdf dAb_218.2.1
theorem dX3_houseNow_16 : decode cX3_houseNow 16 = .ok (.iaload, 1) := fdf dAb_218.2.2.1
theorem dX3_houseNow_17 : decode cX3_houseNow 17 = .ok (.iconst (-1), 1) := fdf dAb_218.2.2.2.1
theorem dX3_houseNow_18 : decode cX3_houseNow 18 = .ok (.if_icmp .eq 7, 3) := fdf dAb_218.2.2.2.2.1
theorem dX3_houseNow_21 : decode cX3_houseNow 21 = .ok (.iconst 1, 1) := fdf dAb_218.2.2.2.2.2.1
theorem dX3_houseNow_22 : decode cX3_houseNow 22 = .ok (.goto 4, 3) := fdf dAb_218.2.2.2.2.2.2.1
theorem dX3_houseNow_25 : decode cX3_houseNow 25 = .ok (.iconst 0, 1) := fdf dAb_218.2.2.2.2.2.2.2.1
theorem dX3_houseNow_26 : decode cX3_houseNow 26 = .ok (.invokestatic 59, 3) := fdf dAb_218.2.2.2.2.2.2.2.2.1
theorem dX3_houseNow_29 : decode cX3_houseNow 29 = .ok (.iadd, 1) := fdf dAb_218.2.2.2.2.2.2.2.2.2.1
theorem dX3_houseNow_30 : decode cX3_houseNow 30 = .ok (.istore_n 2, 1) := fdf dAb_218.2.2.2.2.2.2.2.2.2.2.1
theorem dX3_houseNow_31 : decode cX3_houseNow 31 = .ok (.iinc 3 1, 3) := fdf dAb_218.2.2.2.2.2.2.2.2.2.2.2.1
theorem dX3_houseNow_34 : decode cX3_houseNow 34 = .ok (.goto (-30), 3) := fdf dAb_218.2.2.2.2.2.2.2.2.2.2.2.2.1
theorem dX3_houseNow_37 : decode cX3_houseNow 37 = .ok (.iconst 4, 1) := fdf dAb_218.2.2.2.2.2.2.2.2.2.2.2.2.2.1
theorem dX3_houseNow_40 : decode cX3_houseNow 40 = .ok (.dup, 1) := fdf dAb_218.2.2.2.2.2.2.2.2.2.2.2.2.2.2.1
theorem dX3_houseNow_41 : decode cX3_houseNow 41 = .ok (.iconst 0, 1) := fdf dAb_218.2.2.2.2.2.2.2.2.2.2.2.2.2.2.2
theorem dAb_219 : fdq cX3_houseNow 42 (.aload_n 0) 1 = true ∧ fdq cX3_houseNow 43 (.getfield 168) 3 = true ∧ fdq cX3_houseNow 46 (.iastore) 1 = true ∧ fdq cX3_houseNow 47 (.dup) 1 = true ∧ fdq cX3_houseNow 48 (.iconst 1) 1 = true ∧ fdq cX3_houseNow 49 (.aload_n 0) 1 = true ∧ fdq cX3_houseNow 50 (.getfield 44) 3 = true ∧ fdq cX3_houseNow 53 (.iastore) 1 = true ∧ fdq cX3_houseNow 54 (.dup) 1 = true ∧ fdq cX3_houseNow 55 (.iconst 2) 1 = true ∧ fdq cX3_houseNow 56 (.iload_n 2) 1 = true ∧ fdq cX3_houseNow 57 (.iastore) 1 = true ∧ fdq cX3_houseNow 58 (.dup) 1 = true ∧ fdq cX3_houseNow 59 (.iconst 3) 1 = true ∧ fdq cX3_houseNow 60 (.aload_n 0) 1 = true ∧ fdq cX3_houseNow 61 (.getfield 9) 3 = true := by decide +kernel
theorem dX3_houseNow_42 : decode cX3_houseNow 42 = .ok (.aload_n 0, 1) := fdf dAb_219.1
theorem dX3_houseNow_43 : decode cX3_houseNow 43 = .ok (.getfield 168, 3) := fdf dAb_219.2.1
theorem dX3_houseNow_46 : decode cX3_houseNow 46 = .ok (.iastore, 1) := fdf dAb_219.2.2.1
theorem dX3_houseNow_47 : decode cX3_houseNow 47 = .ok (.dup, 1) := fdf dAb_219.2.2.2.1
theorem dX3_houseNow_48 : decode cX3_houseNow 48 = .ok (.iconst 1, 1) := fdf dAb_219.2.2.2.2.1
theorem dX3_houseNow_49 : decode cX3_houseNow 49 = .ok (.aload_n 0, 1) := fdf dAb_219.2.2.2.2.2.1
theorem dX3_houseNow_50 : decode cX3_houseNow 50 = .ok (.getfield 44, 3) := fdf dAb_219.2.2.2.2.2.2.1
theorem dX3_houseNow_53 : decode cX3_houseNow 53 = .ok (.iastore, 1) := fdf dAb_219.2.2.2.2.2.2.2.1
theorem dX3_houseNow_54 : decode cX3_houseNow 54 = .ok (.dup, 1) := fdf dAb_219.2.2.2.2.2.2.2.2.1
theorem dX3_houseNow_55 : decode cX3_houseNow 55 = .ok (.iconst 2, 1) := fdf dAb_219.2.2.2.2.2.2.2.2.2.1
theorem dX3_houseNow_56 : decode cX3_houseNow 56 = .ok (.iload_n 2, 1) := fdf dAb_219.2.2.2.2.2.2.2.2.2.2.1
theorem dX3_houseNow_57 : decode cX3_houseNow 57 = .ok (.iastore, 1) := fdf dAb_219.2.2.2.2.2.2.2.2.2.2.2.1
theorem dX3_houseNow_58 : decode cX3_houseNow 58 = .ok (.dup, 1) := fdf dAb_219.2.2.2.2.2.2.2.2.2.2.2.2.1
theorem dX3_houseNow_59 : decode cX3_houseNow 59 = .ok (.iconst 3, 1) := fdf dAb_219.2.2.2.2.2.2.2.2.2.2.2.2.2.1
theorem dX3_houseNow_60 : decode cX3_houseNow 60 = .ok (.aload_n 0, 1) := fdf dAb_219.2.2.2.2.2.2.2.2.2.2.2.2.2.2.1
theorem dX3_houseNow_61 : decode cX3_houseNow 61 = .ok (.getfield 9, 3) := fdf dAb_219.2.2.2.2.2.2.2.2.2.2.2.2.2.2.2
theorem dAb_220 : fdq cX3_houseNow 64 (.iconst 0) 1 = true ∧ fdq cX3_houseNow 65 (.aaload) 1 = true ∧ fdq cX3_houseNow 66 (.arraylength) 1 = true ∧ fdq cX3_houseNow 67 (.aload_n 0) 1 = true ∧ fdq cX3_houseNow 68 (.getfield 9) 3 = true ∧ fdq cX3_houseNow 71 (.iconst 1) 1 = true ∧ fdq cX3_houseNow 72 (.aaload) 1 = true ∧ fdq cX3_houseNow 73 (.arraylength) 1 = true ∧ fdq cX3_houseNow 74 (.iadd) 1 = true ∧ fdq cX3_houseNow 75 (.aload_n 0) 1 = true ∧ fdq cX3_houseNow 76 (.getfield 9) 3 = true ∧ fdq cX3_houseNow 79 (.iconst 2) 1 = true ∧ fdq cX3_houseNow 80 (.aaload) 1 = true ∧ fdq cX3_houseNow 81 (.arraylength) 1 = true ∧ fdq cX3_houseNow 82 (.iadd) 1 = true ∧ fdq cX3_houseNow 83 (.iastore) 1 = true := by decide +kernel
theorem dX3_houseNow_64 : decode cX3_houseNow 64 = .ok (.iconst 0, 1) := fdf dAb_220.1
theorem dX3_houseNow_65 : decode cX3_houseNow 65 = .ok (.aaload, 1) := fdf dAb_220.2.1
theorem dX3_houseNow_66 : decode cX3_houseNow 66 = .ok (.arraylength, 1) := fdf dAb_220.2.2.1
theorem dX3_houseNow_67 : decode cX3_houseNow 67 = .ok (.aload_n 0, 1) := fdf dAb_220.2.2.2.1
theorem dX3_houseNow_68 : decode cX3_houseNow 68 = .ok (.getfield 9, 3) := fdf dAb_220.2.2.2.2.1
theorem dX3_houseNow_71 : decode cX3_houseNow 71 = .ok (.iconst 1, 1) := fdf dAb_220.2.2.2.2.2.1
theorem dX3_houseNow_72 : decode cX3_houseNow 72 = .ok (.aaload, 1) := fdf dAb_220.2.2.2.2.2.2.1
theorem dX3_houseNow_73 : decode cX3_houseNow 73 = .ok (.arraylength, 1) := fdf dAb_220.2.2.2.2.2.2.2.1
theorem dX3_houseNow_74 : decode cX3_houseNow 74 = .ok (.iadd, 1) := fdf dAb_220.2.2.2.2.2.2.2.2.1
theorem dX3_houseNow_75 : decode cX3_houseNow 75 = .ok (.aload_n 0, 1) := fdf dAb_220.2.2.2.2.2.2.2.2.2.1
theorem dX3_houseNow_76 : decode cX3_houseNow 76 = .ok (.getfield 9, 3) := fdf dAb_220.2.2.2.2.2.2.2.2.2.2.1
theorem dX3_houseNow_79 : decode cX3_houseNow 79 = .ok (.iconst 2, 1) := fdf dAb_220.2.2.2.2.2.2.2.2.2.2.2.1
theorem dX3_houseNow_80 : decode cX3_houseNow 80 = .ok (.aaload, 1) := fdf dAb_220.2.2.2.2.2.2.2.2.2.2.2.2.1
theorem dX3_houseNow_81 : decode cX3_houseNow 81 = .ok (.arraylength, 1) := fdf dAb_220.2.2.2.2.2.2.2.2.2.2.2.2.2.1
theorem dX3_houseNow_82 : decode cX3_houseNow 82 = .ok (.iadd, 1) := fdf dAb_220.2.2.2.2.2.2.2.2.2.2.2.2.2.2.1
theorem dX3_houseNow_83 : decode cX3_houseNow 83 = .ok (.iastore, 1) := fdf dAb_220.2.2.2.2.2.2.2.2.2.2.2.2.2.2.2
theorem dAb_221 : fdq cX3_houseNow 84 (.astore_n 3) 1 = true ∧ fdq cX3_houseNow 85 (.aload_n 3) 1 = true ∧ fdq cX3_houseNow 86 (.iload_n 1) 1 = true ∧ fdq cX3_houseNow 87 (.iaload) 1 = true ∧ fdq cX3_houseNow 88 (.ireturn) 1 = true ∧ fdq cX3_house 0 (.aload_n 0) 1 = true ∧ fdq cX3_house 1 (.iload_n 1) 1 = true ∧ fdq cX3_house 2 (.iconst 0) 1 = true ∧ fdq cX3_house 3 (.iconst 3) 1 = true ∧ fdq cX3_house 4 (.invokestatic 24) 3 = true ∧ fdq cX3_house 7 (.ifCond .ne 7) 3 = true ∧ fdq cX3_house 10 (.iconst 1) 1 = true ∧ fdq cX3_house 11 (.goto 4) 3 = true ∧ fdq cX3_house 14 (.iconst 0) 1 = true ∧ fdq cX3_house 15 (.iconst 0) 1 = true ∧ fdq cX3_house 16 (.invokevirtual 81) 3 = true := by decide +kernel
theorem dX3_houseNow_84 : decode cX3_houseNow 84 = .ok (.astore_n 3, 1) := fdf dAb_221.1
theorem dX3_houseNow_85 : decode cX3_houseNow 85 = .ok (.aload_n 3, 1) := fdf dAb_221.2.1
theorem dX3_houseNow_86 : decode cX3_houseNow 86 = .ok (.iload_n 1, 1) := fdf dAb_221.2.2.1
theorem dX3_houseNow_87 : decode cX3_houseNow 87 = .ok (.iaload, 1) := fdf dAb_221.2.2.2.1
theorem dX3_houseNow_88 : decode cX3_houseNow 88 = .ok (.ireturn, 1) := fdf dAb_221.2.2.2.2.1
theorem dX3_house_0 : decode cX3_house 0 = .ok (.aload_n 0, 1) := fdf dAb_221.2.2.2.2.2.1
theorem dX3_house_1 : decode cX3_house 1 = .ok (.iload_n 1, 1) := fdf dAb_221.2.2.2.2.2.2.1
theorem dX3_house_2 : decode cX3_house 2 = .ok (.iconst 0, 1) := fdf dAb_221.2.2.2.2.2.2.2.1
theorem dX3_house_3 : decode cX3_house 3 = .ok (.iconst 3, 1) := fdf dAb_221.2.2.2.2.2.2.2.2.1
theorem dX3_house_4 : decode cX3_house 4 = .ok (.invokestatic 24, 3) := fdf dAb_221.2.2.2.2.2.2.2.2.2.1
theorem dX3_house_7 : decode cX3_house 7 = .ok (.ifCond .ne 7, 3) := fdf dAb_221.2.2.2.2.2.2.2.2.2.2.1
theorem dX3_house_10 : decode cX3_house 10 = .ok (.iconst 1, 1) := fdf dAb_221.2.2.2.2.2.2.2.2.2.2.2.1
theorem dX3_house_11 : decode cX3_house 11 = .ok (.goto 4, 3) := fdf dAb_221.2.2.2.2.2.2.2.2.2.2.2.2.1
theorem dX3_house_14 : decode cX3_house 14 = .ok (.iconst 0, 1) := fdf dAb_221.2.2.2.2.2.2.2.2.2.2.2.2.2.1
theorem dX3_house_15 : decode cX3_house 15 = .ok (.iconst 0, 1) := fdf dAb_221.2.2.2.2.2.2.2.2.2.2.2.2.2.2.1
theorem dX3_house_16 : decode cX3_house 16 = .ok (.invokevirtual 81, 3) := fdf dAb_221.2.2.2.2.2.2.2.2.2.2.2.2.2.2.2
theorem dAb_222 : fdq cX3_house 19 (.ifCond .eq 7) 3 = true ∧ fdq cX3_house 22 (.iconst 0) 1 = true ∧ fdq cX3_house 23 (.goto 8) 3 = true ∧ fdq cX3_house 26 (.aload_n 0) 1 = true ∧ fdq cX3_house 27 (.iload_n 1) 1 = true ∧ fdq cX3_house 28 (.invokevirtual 171) 3 = true ∧ fdq cX3_house 31 (.ireturn) 1 = true ∧ fdq cX3_beginNow 0 (.aload_n 0) 1 = true ∧ fdq cX3_beginNow 1 (.getfield 15) 3 = true ∧ fdq cX3_beginNow 4 (.iload_n 1) 1 = true ∧ fdq cX3_beginNow 5 (.iaload) 1 = true ∧ fdq cX3_beginNow 6 (.iconst (-1)) 1 = true ∧ fdq cX3_beginNow 7 (.if_icmp .ne 7) 3 = true ∧ fdq cX3_beginNow 10 (.iconst (-1)) 1 = true ∧ fdq cX3_beginNow 11 (.goto 9) 3 = true ∧ fdq cX3_beginNow 14 (.aload_n 0) 1 = true := by decide +kernel
theorem dX3_house_19 : decode cX3_house 19 = .ok (.ifCond .eq 7, 3) := fdf dAb_222.1
theorem dX3_house_22 : decode cX3_house 22 = .ok (.iconst 0, 1) := fdf dAb_222.2.1
theorem dX3_house_23 : decode cX3_house 23 = .ok (.goto 8, 3) := fdf dAb_222.2.2.1
theorem dX3_house_26 : decode cX3_house 26 = .ok (.aload_n 0, 1) := fdf dAb_222.2.2.2.1
theorem dX3_house_27 : decode cX3_house 27 = .ok (.iload_n 1, 1) := fdf dAb_222.2.2.2.2.1
theorem dX3_house_28 : decode cX3_house 28 = .ok (.invokevirtual 171, 3) := fdf dAb_222.2.2.2.2.2.1
theorem dX3_house_31 : decode cX3_house 31 = .ok (.ireturn, 1) := fdf dAb_222.2.2.2.2.2.2.1
theorem dX3_beginNow_0 : decode cX3_beginNow 0 = .ok (.aload_n 0, 1) := fdf dAb_222.2.2.2.2.2.2.2.1
theorem dX3_beginNow_1 : decode cX3_beginNow 1 = .ok (.getfield 15, 3) := fdf dAb_222.2.2.2.2.2.2.2.2.1
theorem dX3_beginNow_4 : decode cX3_beginNow 4 = .ok (.iload_n 1, 1) := fdf dAb_222.2.2.2.2.2.2.2.2.2.1
theorem dX3_beginNow_5 : decode cX3_beginNow 5 = .ok (.iaload, 1) := fdf dAb_222.2.2.2.2.2.2.2.2.2.2.1
theorem dX3_beginNow_6 : decode cX3_beginNow 6 = .ok (.iconst (-1), 1) := fdf dAb_222.2.2.2.2.2.2.2.2.2.2.2.1
theorem dX3_beginNow_7 : decode cX3_beginNow 7 = .ok (.if_icmp .ne 7, 3) := fdf dAb_222.2.2.2.2.2.2.2.2.2.2.2.2.1
theorem dX3_beginNow_10 : decode cX3_beginNow 10 = .ok (.iconst (-1), 1) := fdf dAb_222.2.2.2.2.2.2.2.2.2.2.2.2.2.1
theorem dX3_beginNow_11 : decode cX3_beginNow 11 = .ok (.goto 9, 3) := fdf dAb_222.2.2.2.2.2.2.2.2.2.2.2.2.2.2.1
theorem dX3_beginNow_14 : decode cX3_beginNow 14 = .ok (.aload_n 0, 1) := fdf dAb_222.2.2.2.2.2.2.2.2.2.2.2.2.2.2.2
theorem dAb_223 : fdq cX3_beginNow 15 (.getfield 18) 3 = true ∧ fdq cX3_beginNow 18 (.iload_n 1) 1 = true ∧ fdq cX3_beginNow 19 (.iaload) 1 = true ∧ fdq cX3_beginNow 20 (.ireturn) 1 = true ∧ fdq cX3_rowOf 0 (.aload_n 0) 1 = true ∧ fdq cX3_rowOf 1 (.iload_n 1) 1 = true ∧ fdq cX3_rowOf 2 (.iconst 0) 1 = true ∧ fdq cX3_rowOf 3 (.bipush 6) 2 = true ∧ fdq cX3_rowOf 5 (.invokestatic 24) 3 = true ∧ fdq cX3_rowOf 8 (.ifCond .ne 7) 3 = true ∧ fdq cX3_rowOf 11 (.iconst 1) 1 = true ∧ fdq cX3_rowOf 12 (.goto 4) 3 = true ∧ fdq cX3_rowOf 15 (.iconst 0) 1 = true ∧ fdq cX3_rowOf 16 (.iconst 0) 1 = true ∧ fdq cX3_rowOf 17 (.invokevirtual 81) 3 = true ∧ fdq cX3_rowOf 20 (.ifCond .eq 7) 3 = true := by decide +kernel
theorem dX3_beginNow_15 : decode cX3_beginNow 15 = .ok (.getfield 18, 3) := fdf dAb_223.1
theorem dX3_beginNow_18 : decode cX3_beginNow 18 = .ok (.iload_n 1, 1) := fdf dAb_223.2.1
theorem dX3_beginNow_19 : decode cX3_beginNow 19 = .ok (.iaload, 1) := fdf dAb_223.2.2.1
theorem dX3_beginNow_20 : decode cX3_beginNow 20 = .ok (.ireturn, 1) := fdf dAb_223.2.2.2.1
theorem dX3_rowOf_0 : decode cX3_rowOf 0 = .ok (.aload_n 0, 1) := fdf dAb_223.2.2.2.2.1
theorem dX3_rowOf_1 : decode cX3_rowOf 1 = .ok (.iload_n 1, 1) := fdf dAb_223.2.2.2.2.2.1
theorem dX3_rowOf_2 : decode cX3_rowOf 2 = .ok (.iconst 0, 1) := fdf dAb_223.2.2.2.2.2.2.1
theorem dX3_rowOf_3 : decode cX3_rowOf 3 = .ok (.bipush 6, 2) := fdf dAb_223.2.2.2.2.2.2.2.1
theorem dX3_rowOf_5 : decode cX3_rowOf 5 = .ok (.invokestatic 24, 3) := fdf dAb_223.2.2.2.2.2.2.2.2.1
theorem dX3_rowOf_8 : decode cX3_rowOf 8 = .ok (.ifCond .ne 7, 3) := fdf dAb_223.2.2.2.2.2.2.2.2.2.1
theorem dX3_rowOf_11 : decode cX3_rowOf 11 = .ok (.iconst 1, 1) := fdf dAb_223.2.2.2.2.2.2.2.2.2.2.1
theorem dX3_rowOf_12 : decode cX3_rowOf 12 = .ok (.goto 4, 3) := fdf dAb_223.2.2.2.2.2.2.2.2.2.2.2.1
theorem dX3_rowOf_15 : decode cX3_rowOf 15 = .ok (.iconst 0, 1) := fdf dAb_223.2.2.2.2.2.2.2.2.2.2.2.2.1
theorem dX3_rowOf_16 : decode cX3_rowOf 16 = .ok (.iconst 0, 1) := fdf dAb_223.2.2.2.2.2.2.2.2.2.2.2.2.2.1
theorem dX3_rowOf_17 : decode cX3_rowOf 17 = .ok (.invokevirtual 81, 3) := fdf dAb_223.2.2.2.2.2.2.2.2.2.2.2.2.2.2.1
theorem dX3_rowOf_20 : decode cX3_rowOf 20 = .ok (.ifCond .eq 7, 3) := fdf dAb_223.2.2.2.2.2.2.2.2.2.2.2.2.2.2.2
theorem dAb_224 : fdq cX3_rowOf 23 (.iconst 0) 1 = true ∧ fdq cX3_rowOf 24 (.goto 9) 3 = true ∧ fdq cX3_rowOf 27 (.aload_n 0) 1 = true ∧ fdq cX3_rowOf 28 (.getfield 15) 3 = true ∧ fdq cX3_rowOf 31 (.iload_n 1) 1 = true ∧ fdq cX3_rowOf 32 (.iaload) 1 = true ∧ fdq cX3_rowOf 33 (.ireturn) 1 = true ∧ fdq cX3_begin 0 (.aload_n 0) 1 = true ∧ fdq cX3_begin 1 (.iload_n 1) 1 = true ∧ fdq cX3_begin 2 (.iconst 0) 1 = true ∧ fdq cX3_begin 3 (.bipush 6) 2 = true ∧ fdq cX3_begin 5 (.invokestatic 24) 3 = true ∧ fdq cX3_begin 8 (.ifCond .ne 7) 3 = true ∧ fdq cX3_begin 11 (.iconst 1) 1 = true ∧ fdq cX3_begin 12 (.goto 4) 3 = true ∧ fdq cX3_begin 15 (.iconst 0) 1 = true := by decide +kernel
theorem dX3_rowOf_23 : decode cX3_rowOf 23 = .ok (.iconst 0, 1) := fdf dAb_224.1
theorem dX3_rowOf_24 : decode cX3_rowOf 24 = .ok (.goto 9, 3) := fdf dAb_224.2.1
theorem dX3_rowOf_27 : decode cX3_rowOf 27 = .ok (.aload_n 0, 1) := fdf dAb_224.2.2.1
theorem dX3_rowOf_28 : decode cX3_rowOf 28 = .ok (.getfield 15, 3) := fdf dAb_224.2.2.2.1
theorem dX3_rowOf_31 : decode cX3_rowOf 31 = .ok (.iload_n 1, 1) := fdf dAb_224.2.2.2.2.1
theorem dX3_rowOf_32 : decode cX3_rowOf 32 = .ok (.iaload, 1) := fdf dAb_224.2.2.2.2.2.1
theorem dX3_rowOf_33 : decode cX3_rowOf 33 = .ok (.ireturn, 1) := fdf dAb_224.2.2.2.2.2.2.1
theorem dX3_begin_0 : decode cX3_begin 0 = .ok (.aload_n 0, 1) := fdf dAb_224.2.2.2.2.2.2.2.1
theorem dX3_begin_1 : decode cX3_begin 1 = .ok (.iload_n 1, 1) := fdf dAb_224.2.2.2.2.2.2.2.2.1
theorem dX3_begin_2 : decode cX3_begin 2 = .ok (.iconst 0, 1) := fdf dAb_224.2.2.2.2.2.2.2.2.2.1
theorem dX3_begin_3 : decode cX3_begin 3 = .ok (.bipush 6, 2) := fdf dAb_224.2.2.2.2.2.2.2.2.2.2.1
theorem dX3_begin_5 : decode cX3_begin 5 = .ok (.invokestatic 24, 3) := fdf dAb_224.2.2.2.2.2.2.2.2.2.2.2.1
theorem dX3_begin_8 : decode cX3_begin 8 = .ok (.ifCond .ne 7, 3) := fdf dAb_224.2.2.2.2.2.2.2.2.2.2.2.2.1
theorem dX3_begin_11 : decode cX3_begin 11 = .ok (.iconst 1, 1) := fdf dAb_224.2.2.2.2.2.2.2.2.2.2.2.2.2.1
theorem dX3_begin_12 : decode cX3_begin 12 = .ok (.goto 4, 3) := fdf dAb_224.2.2.2.2.2.2.2.2.2.2.2.2.2.2.1
theorem dX3_begin_15 : decode cX3_begin 15 = .ok (.iconst 0, 1) := fdf dAb_224.2.2.2.2.2.2.2.2.2.2.2.2.2.2.2
theorem dAb_225 : fdq cX3_begin 16 (.iconst 0) 1 = true ∧ fdq cX3_begin 17 (.invokevirtual 81) 3 = true ∧ fdq cX3_begin 20 (.ifCond .eq 7) 3 = true ∧ fdq cX3_begin 23 (.iconst 0) 1 = true ∧ fdq cX3_begin 24 (.goto 8) 3 = true ∧ fdq cX3_begin 27 (.aload_n 0) 1 = true ∧ fdq cX3_begin 28 (.iload_n 1) 1 = true ∧ fdq cX3_begin 29 (.invokevirtual 174) 3 = true ∧ fdq cX3_begin 32 (.ireturn) 1 = true ∧ fdq cX3_isSound 0 (.aload_n 0) 1 = true ∧ fdq cX3_isSound 1 (.iconst 0) 1 = true ∧ fdq cX3_isSound 2 (.putfield 28) 3 = true ∧ fdq cX3_isSound 5 (.iconst 1) 1 = true ∧ fdq cX3_isSound 6 (.ireturn) 1 = true ∧ fdq cX3_add_ 0 (.aload_n 0) 1 = true ∧ fdq cX3_add_ 1 (.aload_n 0) 1 = true := by decide +kernel
theorem dX3_begin_16 : decode cX3_begin 16 = .ok (.iconst 0, 1) := fdf dAb_225.1
theorem dX3_begin_17 : decode cX3_begin 17 = .ok (.invokevirtual 81, 3) := fdf dAb_225.2.1
theorem dX3_begin_20 : decode cX3_begin 20 = .ok (.ifCond .eq 7, 3) := fdf dAb_225.2.2.1
theorem dX3_begin_23 : decode cX3_begin 23 = .ok (.iconst 0, 1) := fdf dAb_225.2.2.2.1
theorem dX3_begin_24 : decode cX3_begin 24 = .ok (.goto 8, 3) := fdf dAb_225.2.2.2.2.1
theorem dX3_begin_27 : decode cX3_begin 27 = .ok (.aload_n 0, 1) := fdf dAb_225.2.2.2.2.2.1
theorem dX3_begin_28 : decode cX3_begin 28 = .ok (.iload_n 1, 1) := fdf dAb_225.2.2.2.2.2.2.1
theorem dX3_begin_29 : decode cX3_begin 29 = .ok (.invokevirtual 174, 3) := fdf dAb_225.2.2.2.2.2.2.2.1
theorem dX3_begin_32 : decode cX3_begin 32 = .ok (.ireturn, 1) := fdf dAb_225.2.2.2.2.2.2.2.2.1
theorem dX3_isSound_0 : decode cX3_isSound 0 = .ok (.aload_n 0, 1) := fdf dAb_225.2.2.2.2.2.2.2.2.2.1
theorem dX3_isSound_1 : decode cX3_isSound 1 = .ok (.iconst 0, 1) := fdf dAb_225.2.2.2.2.2.2.2.2.2.2.1
theorem dX3_isSound_2 : decode cX3_isSound 2 = .ok (.putfield 28, 3) := fdf dAb_225.2.2.2.2.2.2.2.2.2.2.2.1
theorem dX3_isSound_5 : decode cX3_isSound 5 = .ok (.iconst 1, 1) := fdf dAb_225.2.2.2.2.2.2.2.2.2.2.2.2.1
theorem dX3_isSound_6 : decode cX3_isSound 6 = .ok (.ireturn, 1) := fdf dAb_225.2.2.2.2.2.2.2.2.2.2.2.2.2.1
theorem dX3_add__0 : decode cX3_add_ 0 = .ok (.aload_n 0, 1) := fdf dAb_225.2.2.2.2.2.2.2.2.2.2.2.2.2.2.1
theorem dX3_add__1 : decode cX3_add_ 1 = .ok (.aload_n 0, 1) := fdf dAb_225.2.2.2.2.2.2.2.2.2.2.2.2.2.2.2
theorem dAb_226 : fdq cX3_add_ 2 (.getfield 177) 3 = true ∧ fdq cX3_add_ 5 (.ldc2_w 181) 3 = true ∧ fdq cX3_add_ 8 (.lmul) 1 = true ∧ fdq cX3_add_ 9 (.lload_n 1) 1 = true ∧ fdq cX3_add_ 10 (.ladd) 1 = true ∧ fdq cX3_add_ 11 (.putfield 177) 3 = true ∧ fdq cX3_add_ 14 (.return_) 1 = true ∧ fdq cX3_digest 0 (.aload_n 0) 1 = true ∧ fdq cX3_digest 1 (.iconst 0) 1 = true ∧ fdq cX3_digest 2 (.putfield 28) 3 = true ∧ fdq cX3_digest 5 (.aload_n 0) 1 = true ∧ fdq cX3_digest 6 (.ldc2_w 183) 3 = true ∧ fdq cX3_digest 9 (.putfield 177) 3 = true ∧ fdq cX3_digest 12 (.iconst 0) 1 = true ∧ fdq cX3_digest 13 (.istore_n 1) 1 = true ∧ fdq cX3_digest 14 (.iload_n 1) 1 = true := by decide +kernel
theorem dX3_add__2 : decode cX3_add_ 2 = .ok (.getfield 177, 3) := fdf dAb_226.1
theorem dX3_add__5 : decode cX3_add_ 5 = .ok (.ldc2_w 181, 3) := fdf dAb_226.2.1
theorem dX3_add__8 : decode cX3_add_ 8 = .ok (.lmul, 1) := fdf dAb_226.2.2.1
theorem dX3_add__9 : decode cX3_add_ 9 = .ok (.lload_n 1, 1) := fdf dAb_226.2.2.2.1
theorem dX3_add__10 : decode cX3_add_ 10 = .ok (.ladd, 1) := fdf dAb_226.2.2.2.2.1
theorem dX3_add__11 : decode cX3_add_ 11 = .ok (.putfield 177, 3) := fdf dAb_226.2.2.2.2.2.1
theorem dX3_add__14 : decode cX3_add_ 14 = .ok (.return_, 1) := fdf dAb_226.2.2.2.2.2.2.1
theorem dX3_digest_0 : decode cX3_digest 0 = .ok (.aload_n 0, 1) := fdf dAb_226.2.2.2.2.2.2.2.1
theorem dX3_digest_1 : decode cX3_digest 1 = .ok (.iconst 0, 1) := fdf dAb_226.2.2.2.2.2.2.2.2.1
theorem dX3_digest_2 : decode cX3_digest 2 = .ok (.putfield 28, 3) := fdf dAb_226.2.2.2.2.2.2.2.2.2.1
theorem dX3_digest_5 : decode cX3_digest 5 = .ok (.aload_n 0, 1) := fdf dAb_226.2.2.2.2.2.2.2.2.2.2.1
theorem dX3_digest_6 : decode cX3_digest 6 = .ok (.ldc2_w 183, 3) := fdf dAb_226.2.2.2.2.2.2.2.2.2.2.2.1
theorem dX3_digest_9 : decode cX3_digest 9 = .ok (.putfield 177, 3) := fdf dAb_226.2.2.2.2.2.2.2.2.2.2.2.2.1
theorem dX3_digest_12 : decode cX3_digest 12 = .ok (.iconst 0, 1) := fdf dAb_226.2.2.2.2.2.2.2.2.2.2.2.2.2.1
theorem dX3_digest_13 : decode cX3_digest 13 = .ok (.istore_n 1, 1) := fdf dAb_226.2.2.2.2.2.2.2.2.2.2.2.2.2.2.1
theorem dX3_digest_14 : decode cX3_digest 14 = .ok (.iload_n 1, 1) := fdf dAb_226.2.2.2.2.2.2.2.2.2.2.2.2.2.2.2
theorem dAb_227 : fdq cX3_digest 15 (.iconst 4) 1 = true ∧ fdq cX3_digest 16 (.if_icmp .ge 19) 3 = true ∧ fdq cX3_digest 19 (.aload_n 0) 1 = true ∧ fdq cX3_digest 20 (.aload_n 0) 1 = true ∧ fdq cX3_digest 21 (.iload_n 1) 1 = true ∧ fdq cX3_digest 22 (.invokevirtual 171) 3 = true ∧ fdq cX3_digest 25 (.i2l) 1 = true ∧ fdq cX3_digest 26 (.invokevirtual 185) 3 = true ∧ fdq cX3_digest 29 (.iinc 1 1) 3 = true ∧ fdq cX3_digest 32 (.goto (-18)) 3 = true ∧ fdq cX3_digest 35 (.aload_n 0) 1 = true ∧ fdq cX3_digest 36 (.getfield 9) 3 = true ∧ fdq cX3_digest 39 (.astore_n 1) 1 = true ∧ fdq cX3_digest 40 (.aload_n 1) 1 = true ∧ fdq cX3_digest 41 (.arraylength) 1 = true ∧ fdq cX3_digest 42 (.istore_n 2) 1 = true := by decide +kernel
theorem dX3_digest_15 : decode cX3_digest 15 = .ok (.iconst 4, 1) := fdf dAb_227.1
theorem dX3_digest_16 : decode cX3_digest 16 = .ok (.if_icmp .ge 19, 3) := fdf dAb_227.2.1
theorem dX3_digest_19 : decode cX3_digest 19 = .ok (.aload_n 0, 1) := fdf dAb_227.2.2.1
theorem dX3_digest_20 : decode cX3_digest 20 = .ok (.aload_n 0, 1) := fdf dAb_227.2.2.2.1
theorem dX3_digest_21 : decode cX3_digest 21 = .ok (.iload_n 1, 1) := fdf dAb_227.2.2.2.2.1
theorem dX3_digest_22 : decode cX3_digest 22 = .ok (.invokevirtual 171, 3) := fdf dAb_227.2.2.2.2.2.1
theorem dX3_digest_25 : decode cX3_digest 25 = .ok (.i2l, 1) := fdf dAb_227.2.2.2.2.2.2.1
theorem dX3_digest_26 : decode cX3_digest 26 = .ok (.invokevirtual 185, 3) := fdf dAb_227.2.2.2.2.2.2.2.1
theorem dX3_digest_29 : decode cX3_digest 29 = .ok (.iinc 1 1, 3) := fdf dAb_227.2.2.2.2.2.2.2.2.1
theorem dX3_digest_32 : decode cX3_digest 32 = .ok (.goto (-18), 3) := fdf dAb_227.2.2.2.2.2.2.2.2.2.1
theorem dX3_digest_35 : decode cX3_digest 35 = .ok (.aload_n 0, 1) := fdf dAb_227.2.2.2.2.2.2.2.2.2.2.1
theorem dX3_digest_36 : decode cX3_digest 36 = .ok (.getfield 9, 3) := fdf dAb_227.2.2.2.2.2.2.2.2.2.2.2.1
theorem dX3_digest_39 : decode cX3_digest 39 = .ok (.astore_n 1, 1) := fdf dAb_227.2.2.2.2.2.2.2.2.2.2.2.2.1
theorem dX3_digest_40 : decode cX3_digest 40 = .ok (.aload_n 1, 1) := fdf dAb_227.2.2.2.2.2.2.2.2.2.2.2.2.2.1
theorem dX3_digest_41 : decode cX3_digest 41 = .ok (.arraylength, 1) := fdf dAb_227.2.2.2.2.2.2.2.2.2.2.2.2.2.2.1
theorem dX3_digest_42 : decode cX3_digest 42 = .ok (.istore_n 2, 1) := fdf dAb_227.2.2.2.2.2.2.2.2.2.2.2.2.2.2.2
theorem dAb_228 : fdq cX3_digest 43 (.iconst 0) 1 = true ∧ fdq cX3_digest 44 (.istore_n 3) 1 = true ∧ fdq cX3_digest 45 (.iload_n 3) 1 = true ∧ fdq cX3_digest 46 (.iload_n 2) 1 = true ∧ fdq cX3_digest 47 (.if_icmp .ge 61) 3 = true ∧ fdq cX3_digest 50 (.aload_n 1) 1 = true ∧ fdq cX3_digest 51 (.iload_n 3) 1 = true ∧ fdq cX3_digest 52 (.aaload) 1 = true ∧ fdq cX3_digest 53 (.astore 4) 2 = true ∧ fdq cX3_digest 55 (.aload_n 0) 1 = true ∧ fdq cX3_digest 56 (.aload 4) 2 = true ∧ fdq cX3_digest 58 (.arraylength) 1 = true ∧ fdq cX3_digest 59 (.i2l) 1 = true ∧ fdq cX3_digest 60 (.invokevirtual 185) 3 = true ∧ fdq cX3_digest 63 (.aload 4) 2 = true ∧ fdq cX3_digest 65 (.astore 5) 2 = true := by decide +kernel
theorem dX3_digest_43 : decode cX3_digest 43 = .ok (.iconst 0, 1) := fdf dAb_228.1
theorem dX3_digest_44 : decode cX3_digest 44 = .ok (.istore_n 3, 1) := fdf dAb_228.2.1
theorem dX3_digest_45 : decode cX3_digest 45 = .ok (.iload_n 3, 1) := fdf dAb_228.2.2.1
theorem dX3_digest_46 : decode cX3_digest 46 = .ok (.iload_n 2, 1) := fdf dAb_228.2.2.2.1
theorem dX3_digest_47 : decode cX3_digest 47 = .ok (.if_icmp .ge 61, 3) := fdf dAb_228.2.2.2.2.1
theorem dX3_digest_50 : decode cX3_digest 50 = .ok (.aload_n 1, 1) := fdf dAb_228.2.2.2.2.2.1
theorem dX3_digest_51 : decode cX3_digest 51 = .ok (.iload_n 3, 1) := fdf dAb_228.2.2.2.2.2.2.1
theorem dX3_digest_52 : decode cX3_digest 52 = .ok (.aaload, 1) := fdf dAb_228.2.2.2.2.2.2.2.1
theorem dX3_digest_53 : decode cX3_digest 53 = .ok (.astore 4, 2) := fdf dAb_228.2.2.2.2.2.2.2.2.1
theorem dX3_digest_55 : decode cX3_digest 55 = .ok (.aload_n 0, 1) := fdf dAb_228.2.2.2.2.2.2.2.2.2.1
theorem dX3_digest_56 : decode cX3_digest 56 = .ok (.aload 4, 2) := fdf dAb_228.2.2.2.2.2.2.2.2.2.2.1
theorem dX3_digest_58 : decode cX3_digest 58 = .ok (.arraylength, 1) := fdf dAb_228.2.2.2.2.2.2.2.2.2.2.2.1
theorem dX3_digest_59 : decode cX3_digest 59 = .ok (.i2l, 1) := fdf dAb_228.2.2.2.2.2.2.2.2.2.2.2.2.1
theorem dX3_digest_60 : decode cX3_digest 60 = .ok (.invokevirtual 185, 3) := fdf dAb_228.2.2.2.2.2.2.2.2.2.2.2.2.2.1
theorem dX3_digest_63 : decode cX3_digest 63 = .ok (.aload 4, 2) := fdf dAb_228.2.2.2.2.2.2.2.2.2.2.2.2.2.2.1
theorem dX3_digest_65 : decode cX3_digest 65 = .ok (.astore 5, 2) := fdf dAb_228.2.2.2.2.2.2.2.2.2.2.2.2.2.2.2
theorem dAb_229 : fdq cX3_digest 67 (.aload 5) 2 = true ∧ fdq cX3_digest 69 (.arraylength) 1 = true ∧ fdq cX3_digest 70 (.istore 6) 2 = true ∧ fdq cX3_digest 72 (.iconst 0) 1 = true ∧ fdq cX3_digest 73 (.istore 7) 2 = true ∧ fdq cX3_digest 75 (.iload 7) 2 = true ∧ fdq cX3_digest 77 (.iload 6) 2 = true ∧ fdq cX3_digest 79 (.if_icmp .ge 23) 3 = true ∧ fdq cX3_digest 82 (.aload 5) 2 = true ∧ fdq cX3_digest 84 (.iload 7) 2 = true ∧ fdq cX3_digest 86 (.iaload) 1 = true ∧ fdq cX3_digest 87 (.istore 8) 2 = true ∧ fdq cX3_digest 89 (.aload_n 0) 1 = true ∧ fdq cX3_digest 90 (.iload 8) 2 = true ∧ fdq cX3_digest 92 (.i2l) 1 = true ∧ fdq cX3_digest 93 (.invokevirtual 185) 3 = true := by decide +kernel
theorem dX3_digest_67 : decode cX3_digest 67 = .ok (.aload 5, 2) := fdf dAb_229.1
theorem dX3_digest_69 : decode cX3_digest 69 = .ok (.arraylength, 1) := fdf dAb_229.2.1
theorem dX3_digest_70 : decode cX3_digest 70 = .ok (.istore 6, 2) := fdf dAb_229.2.2.1
theorem dX3_digest_72 : decode cX3_digest 72 = .ok (.iconst 0, 1) := fdf dAb_229.2.2.2.1
theorem dX3_digest_73 : decode cX3_digest 73 = .ok (.istore 7, 2) := fdf dAb_229.2.2.2.2.1
theorem dX3_digest_75 : decode cX3_digest 75 = .ok (.iload 7, 2) := fdf dAb_229.2.2.2.2.2.1
theorem dX3_digest_77 : decode cX3_digest 77 = .ok (.iload 6, 2) := fdf dAb_229.2.2.2.2.2.2.1
theorem dX3_digest_79 : decode cX3_digest 79 = .ok (.if_icmp .ge 23, 3) := fdf dAb_229.2.2.2.2.2.2.2.1
theorem dX3_digest_82 : decode cX3_digest 82 = .ok (.aload 5, 2) := fdf dAb_229.2.2.2.2.2.2.2.2.1
theorem dX3_digest_84 : decode cX3_digest 84 = .ok (.iload 7, 2) := fdf dAb_229.2.2.2.2.2.2.2.2.2.1
theorem dX3_digest_86 : decode cX3_digest 86 = .ok (.iaload, 1) := fdf dAb_229.2.2.2.2.2.2.2.2.2.2.1
theorem dX3_digest_87 : decode cX3_digest 87 = .ok (.istore 8, 2) := fdf dAb_229.2.2.2.2.2.2.2.2.2.2.2.1
theorem dX3_digest_89 : decode cX3_digest 89 = .ok (.aload_n 0, 1) := fdf dAb_229.2.2.2.2.2.2.2.2.2.2.2.2.1
theorem dX3_digest_90 : decode cX3_digest 90 = .ok (.iload 8, 2) := fdf dAb_229.2.2.2.2.2.2.2.2.2.2.2.2.2.1
theorem dX3_digest_92 : decode cX3_digest 92 = .ok (.i2l, 1) := fdf dAb_229.2.2.2.2.2.2.2.2.2.2.2.2.2.2.1
theorem dX3_digest_93 : decode cX3_digest 93 = .ok (.invokevirtual 185, 3) := fdf dAb_229.2.2.2.2.2.2.2.2.2.2.2.2.2.2.2
theorem dAb_230 : fdq cX3_digest 96 (.iinc 7 1) 3 = true ∧ fdq cX3_digest 99 (.goto (-24)) 3 = true ∧ fdq cX3_digest 102 (.iinc 3 1) 3 = true ∧ fdq cX3_digest 105 (.goto (-60)) 3 = true ∧ fdq cX3_digest 108 (.iconst 0) 1 = true ∧ fdq cX3_digest 109 (.istore_n 1) 1 = true ∧ fdq cX3_digest 110 (.iload_n 1) 1 = true ∧ fdq cX3_digest 111 (.bipush 7) 2 = true ∧ fdq cX3_digest 113 (.if_icmp .ge 74) 3 = true ∧ fdq cX3_digest 116 (.aload_n 0) 1 = true ∧ fdq cX3_digest 117 (.aload_n 0) 1 = true ∧ fdq cX3_digest 118 (.getfield 15) 3 = true ∧ fdq cX3_digest 121 (.iload_n 1) 1 = true ∧ fdq cX3_digest 122 (.iaload) 1 = true ∧ fdq cX3_digest 123 (.i2l) 1 = true ∧ fdq cX3_digest 124 (.invokevirtual 185) 3 = true := by decide +kernel
theorem dX3_digest_96 : decode cX3_digest 96 = .ok (.iinc 7 1, 3) := fdf dAb_230.1
theorem dX3_digest_99 : decode cX3_digest 99 = .ok (.goto (-24), 3) := fdf dAb_230.2.1
theorem dX3_digest_102 : decode cX3_digest 102 = .ok (.iinc 3 1, 3) := fdf dAb_230.2.2.1
theorem dX3_digest_105 : decode cX3_digest 105 = .ok (.goto (-60), 3) := fdf dAb_230.2.2.2.1
theorem dX3_digest_108 : decode cX3_digest 108 = .ok (.iconst 0, 1) := fdf dAb_230.2.2.2.2.1
theorem dX3_digest_109 : decode cX3_digest 109 = .ok (.istore_n 1, 1) := fdf dAb_230.2.2.2.2.2.1
theorem dX3_digest_110 : decode cX3_digest 110 = .ok (.iload_n 1, 1) := fdf dAb_230.2.2.2.2.2.2.1
theorem dX3_digest_111 : decode cX3_digest 111 = .ok (.bipush 7, 2) := fdf dAb_230.2.2.2.2.2.2.2.1
theorem dX3_digest_113 : decode cX3_digest 113 = .ok (.if_icmp .ge 74, 3) := fdf dAb_230.2.2.2.2.2.2.2.2.1
theorem dX3_digest_116 : decode cX3_digest 116 = .ok (.aload_n 0, 1) := fdf dAb_230.2.2.2.2.2.2.2.2.2.1
theorem dX3_digest_117 : decode cX3_digest 117 = .ok (.aload_n 0, 1) := fdf dAb_230.2.2.2.2.2.2.2.2.2.2.1
theorem dX3_digest_118 : decode cX3_digest 118 = .ok (.getfield 15, 3) := fdf dAb_230.2.2.2.2.2.2.2.2.2.2.2.1
theorem dX3_digest_121 : decode cX3_digest 121 = .ok (.iload_n 1, 1) := fdf dAb_230.2.2.2.2.2.2.2.2.2.2.2.2.1
theorem dX3_digest_122 : decode cX3_digest 122 = .ok (.iaload, 1) := fdf dAb_230.2.2.2.2.2.2.2.2.2.2.2.2.2.1
theorem dX3_digest_123 : decode cX3_digest 123 = .ok (.i2l, 1) := fdf dAb_230.2.2.2.2.2.2.2.2.2.2.2.2.2.2.1
theorem dX3_digest_124 : decode cX3_digest 124 = .ok (.invokevirtual 185, 3) := fdf dAb_230.2.2.2.2.2.2.2.2.2.2.2.2.2.2.2
theorem dAb_231 : fdq cX3_digest 127 (.aload_n 0) 1 = true ∧ fdq cX3_digest 128 (.aload_n 0) 1 = true ∧ fdq cX3_digest 129 (.iload_n 1) 1 = true ∧ fdq cX3_digest 130 (.invokevirtual 174) 3 = true ∧ fdq cX3_digest 133 (.i2l) 1 = true ∧ fdq cX3_digest 134 (.invokevirtual 185) 3 = true ∧ fdq cX3_digest 137 (.aload_n 0) 1 = true ∧ fdq cX3_digest 138 (.getfield 15) 3 = true ∧ fdq cX3_digest 141 (.iload_n 1) 1 = true ∧ fdq cX3_digest 142 (.iaload) 1 = true ∧ fdq cX3_digest 143 (.iconst (-1)) 1 = true ∧ fdq cX3_digest 144 (.if_icmp .ne 6) 3 = true ∧ fdq cX3_digest 147 (.goto 34) 3 = true ∧ fdq cX3_digest 150 (.aload_n 0) 1 = true ∧ fdq cX3_digest 151 (.aload_n 0) 1 = true ∧ fdq cX3_digest 152 (.getfield 21) 3 = true := by decide +kernel
theorem dX3_digest_127 : decode cX3_digest 127 = .ok (.aload_n 0, 1) := fdf dAb_231.1
theorem dX3_digest_128 : decode cX3_digest 128 = .ok (.aload_n 0, 1) := fdf dAb_231.2.1
theorem dX3_digest_129 : decode cX3_digest 129 = .ok (.iload_n 1, 1) := fdf dAb_231.2.2.1
theorem dX3_digest_130 : decode cX3_digest 130 = .ok (.invokevirtual 174, 3) := fdf dAb_231.2.2.2.1
theorem dX3_digest_133 : decode cX3_digest 133 = .ok (.i2l, 1) := fdf dAb_231.2.2.2.2.1
theorem dX3_digest_134 : decode cX3_digest 134 = .ok (.invokevirtual 185, 3) := fdf dAb_231.2.2.2.2.2.1
theorem dX3_digest_137 : decode cX3_digest 137 = .ok (.aload_n 0, 1) := fdf dAb_231.2.2.2.2.2.2.1
theorem dX3_digest_138 : decode cX3_digest 138 = .ok (.getfield 15, 3) := fdf dAb_231.2.2.2.2.2.2.2.1
theorem dX3_digest_141 : decode cX3_digest 141 = .ok (.iload_n 1, 1) := fdf dAb_231.2.2.2.2.2.2.2.2.1
theorem dX3_digest_142 : decode cX3_digest 142 = .ok (.iaload, 1) := fdf dAb_231.2.2.2.2.2.2.2.2.2.1
theorem dX3_digest_143 : decode cX3_digest 143 = .ok (.iconst (-1), 1) := fdf dAb_231.2.2.2.2.2.2.2.2.2.2.1
theorem dX3_digest_144 : decode cX3_digest 144 = .ok (.if_icmp .ne 6, 3) := fdf dAb_231.2.2.2.2.2.2.2.2.2.2.2.1
theorem dX3_digest_147 : decode cX3_digest 147 = .ok (.goto 34, 3) := fdf dAb_231.2.2.2.2.2.2.2.2.2.2.2.2.1
theorem dX3_digest_150 : decode cX3_digest 150 = .ok (.aload_n 0, 1) := fdf dAb_231.2.2.2.2.2.2.2.2.2.2.2.2.2.1
theorem dX3_digest_151 : decode cX3_digest 151 = .ok (.aload_n 0, 1) := fdf dAb_231.2.2.2.2.2.2.2.2.2.2.2.2.2.2.1
theorem dX3_digest_152 : decode cX3_digest 152 = .ok (.getfield 21, 3) := fdf dAb_231.2.2.2.2.2.2.2.2.2.2.2.2.2.2.2
theorem dAb_232 : fdq cX3_digest 155 (.iload_n 1) 1 = true ∧ fdq cX3_digest 156 (.iaload) 1 = true ∧ fdq cX3_digest 157 (.i2l) 1 = true ∧ fdq cX3_digest 158 (.invokevirtual 185) 3 = true ∧ fdq cX3_digest 161 (.aload_n 0) 1 = true ∧ fdq cX3_digest 162 (.aload_n 0) 1 = true ∧ fdq cX3_digest 163 (.iload_n 1) 1 = true ∧ fdq cX3_digest 164 (.invokevirtual 132) 3 = true ∧ fdq cX3_digest 167 (.i2l) 1 = true ∧ fdq cX3_digest 168 (.invokevirtual 185) 3 = true ∧ fdq cX3_digest 171 (.aload_n 0) 1 = true ∧ fdq cX3_digest 172 (.aload_n 0) 1 = true ∧ fdq cX3_digest 173 (.iload_n 1) 1 = true ∧ fdq cX3_digest 174 (.invokevirtual 140) 3 = true ∧ fdq cX3_digest 177 (.i2l) 1 = true ∧ fdq cX3_digest 178 (.invokevirtual 185) 3 = true := by decide +kernel
theorem dX3_digest_155 : decode cX3_digest 155 = .ok (.iload_n 1, 1) := fdf dAb_232.1
theorem dX3_digest_156 : decode cX3_digest 156 = .ok (.iaload, 1) := fdf dAb_232.2.1
theorem dX3_digest_157 : decode cX3_digest 157 = .ok (.i2l, 1) := fdf dAb_232.2.2.1
theorem dX3_digest_158 : decode cX3_digest 158 = .ok (.invokevirtual 185, 3) := fdf dAb_232.2.2.2.1
theorem dX3_digest_161 : decode cX3_digest 161 = .ok (.aload_n 0, 1) := fdf dAb_232.2.2.2.2.1
theorem dX3_digest_162 : decode cX3_digest 162 = .ok (.aload_n 0, 1) := fdf dAb_232.2.2.2.2.2.1
theorem dX3_digest_163 : decode cX3_digest 163 = .ok (.iload_n 1, 1) := fdf dAb_232.2.2.2.2.2.2.1
theorem dX3_digest_164 : decode cX3_digest 164 = .ok (.invokevirtual 132, 3) := fdf dAb_232.2.2.2.2.2.2.2.1
theorem dX3_digest_167 : decode cX3_digest 167 = .ok (.i2l, 1) := fdf dAb_232.2.2.2.2.2.2.2.2.1
theorem dX3_digest_168 : decode cX3_digest 168 = .ok (.invokevirtual 185, 3) := fdf dAb_232.2.2.2.2.2.2.2.2.2.1
theorem dX3_digest_171 : decode cX3_digest 171 = .ok (.aload_n 0, 1) := fdf dAb_232.2.2.2.2.2.2.2.2.2.2.1
theorem dX3_digest_172 : decode cX3_digest 172 = .ok (.aload_n 0, 1) := fdf dAb_232.2.2.2.2.2.2.2.2.2.2.2.1
theorem dX3_digest_173 : decode cX3_digest 173 = .ok (.iload_n 1, 1) := fdf dAb_232.2.2.2.2.2.2.2.2.2.2.2.2.1
theorem dX3_digest_174 : decode cX3_digest 174 = .ok (.invokevirtual 140, 3) := fdf dAb_232.2.2.2.2.2.2.2.2.2.2.2.2.2.1
theorem dX3_digest_177 : decode cX3_digest 177 = .ok (.i2l, 1) := fdf dAb_232.2.2.2.2.2.2.2.2.2.2.2.2.2.2.1
theorem dX3_digest_178 : decode cX3_digest 178 = .ok (.invokevirtual 185, 3) := fdf dAb_232.2.2.2.2.2.2.2.2.2.2.2.2.2.2.2
theorem dAb_233 : fdq cX3_digest 181 (.iinc 1 1) 3 = true ∧ fdq cX3_digest 184 (.goto (-74)) 3 = true ∧ fdq cX3_digest 187 (.aload_n 0) 1 = true ∧ fdq cX3_digest 188 (.lconst 1) 1 = true ∧ fdq cX3_digest 189 (.invokevirtual 185) 3 = true ∧ fdq cX3_digest 192 (.aload_n 0) 1 = true ∧ fdq cX3_digest 193 (.getfield 177) 3 = true ∧ fdq cX3_digest 196 (.lreturn) 1 = true ∧ fdq cJ5_init_d00df 0 (.aload_n 0) 1 = true ∧ fdq cJ5_init_d00df 1 (.invokespecial 3) 3 = true ∧ fdq cJ5_init_d00df 4 (.getstatic 18) 3 = true ∧ fdq cJ5_init_d00df 7 (.ifCond .eq 18) 3 = true ∧ fdq cJ5_init_d00df 10 (.aload_n 0) 1 = true ∧ fdq cJ5_init_d00df 11 (.iload_n 1) 1 = true ∧ fdq cJ5_init_d00df 14 (.putfield 15) 3 = true ∧ fdq cJ5_init_d00df 17 (.aload_n 0) 1 = true := by decide +kernel
theorem dX3_digest_181 : decode cX3_digest 181 = .ok (.iinc 1 1, 3) := fdf dAb_233.1
theorem dX3_digest_184 : decode cX3_digest 184 = .ok (.goto (-74), 3) := fdf dAb_233.2.1
theorem dX3_digest_187 : decode cX3_digest 187 = .ok (.aload_n 0, 1) := fdf dAb_233.2.2.1
theorem dX3_digest_188 : decode cX3_digest 188 = .ok (.lconst 1, 1) := fdf dAb_233.2.2.2.1
theorem dX3_digest_189 : decode cX3_digest 189 = .ok (.invokevirtual 185, 3) := fdf dAb_233.2.2.2.2.1
theorem dX3_digest_192 : decode cX3_digest 192 = .ok (.aload_n 0, 1) := fdf dAb_233.2.2.2.2.2.1
theorem dX3_digest_193 : decode cX3_digest 193 = .ok (.getfield 177, 3) := fdf dAb_233.2.2.2.2.2.2.1
theorem dX3_digest_196 : decode cX3_digest 196 = .ok (.lreturn, 1) := fdf dAb_233.2.2.2.2.2.2.2.1
theorem dJ5_init_d00df_0 : decode cJ5_init_d00df 0 = .ok (.aload_n 0, 1) := fdf dAb_233.2.2.2.2.2.2.2.2.1
theorem dJ5_init_d00df_1 : decode cJ5_init_d00df 1 = .ok (.invokespecial 3, 3) := fdf dAb_233.2.2.2.2.2.2.2.2.2.1
theorem dJ5_init_d00df_4 : decode cJ5_init_d00df 4 = .ok (.getstatic 18, 3) := fdf dAb_233.2.2.2.2.2.2.2.2.2.2.1
theorem dJ5_init_d00df_7 : decode cJ5_init_d00df 7 = .ok (.ifCond .eq 18, 3) := fdf dAb_233.2.2.2.2.2.2.2.2.2.2.2.1
theorem dJ5_init_d00df_10 : decode cJ5_init_d00df 10 = .ok (.aload_n 0, 1) := fdf dAb_233.2.2.2.2.2.2.2.2.2.2.2.2.1
theorem dJ5_init_d00df_11 : decode cJ5_init_d00df 11 = .ok (.iload_n 1, 1) := fdf dAb_233.2.2.2.2.2.2.2.2.2.2.2.2.2.1
theorem dJ5_init_d00df_14 : decode cJ5_init_d00df 14 = .ok (.putfield 15, 3) := fdf dAb_233.2.2.2.2.2.2.2.2.2.2.2.2.2.2.1
theorem dJ5_init_d00df_17 : decode cJ5_init_d00df 17 = .ok (.aload_n 0, 1) := fdf dAb_233.2.2.2.2.2.2.2.2.2.2.2.2.2.2.2
theorem dAb_234 : fdq cJ5_init_d00df 18 (.iconst 0) 1 = true ∧ fdq cJ5_init_d00df 19 (.putfield 22) 3 = true ∧ fdq cJ5_init_d00df 22 (.goto 16) 3 = true ∧ fdq cJ5_init_d00df 25 (.aload_n 0) 1 = true ∧ fdq cJ5_init_d00df 26 (.iload_n 1) 1 = true ∧ fdq cJ5_init_d00df 38 (.return_) 1 = true ∧ fdq cJ5_length_8abf5 0 (.aload_n 0) 1 = true ∧ fdq cJ5_length_8abf5 1 (.getfield 79) 3 = true ∧ fdq cJ5_length_8abf5 4 (.ireturn) 1 = true ∧ fdq cJ5_ensureCapacityInternal_d00df 0 (.aload_n 0) 1 = true ∧ fdq cJ5_ensureCapacityInternal_d00df 1 (.getfield 15) 3 = true ∧ fdq cJ5_ensureCapacityInternal_d00df 4 (.arraylength) 1 = true ∧ fdq cJ5_ensureCapacityInternal_d00df 5 (.aload_n 0) 1 = true ∧ fdq cJ5_ensureCapacityInternal_d00df 6 (.getfield 22) 3 = true ∧ fdq cJ5_ensureCapacityInternal_d00df 9 (.ishr) 1 = true ∧ fdq cJ5_ensureCapacityInternal_d00df 10 (.istore_n 2) 1 = true := by decide +kernel
theorem dJ5_init_d00df_18 : decode cJ5_init_d00df 18 = .ok (.iconst 0, 1) := fdf dAb_234.1
theorem dJ5_init_d00df_19 : decode cJ5_init_d00df 19 = .ok (.putfield 22, 3) := fdf dAb_234.2.1
theorem dJ5_init_d00df_22 : decode cJ5_init_d00df 22 = .ok (.goto 16, 3) := fdf dAb_234.2.2.1
theorem dJ5_init_d00df_25 : decode cJ5_init_d00df 25 = .ok (.aload_n 0, 1) := fdf dAb_234.2.2.2.1
theorem dJ5_init_d00df_26 : decode cJ5_init_d00df 26 = .ok (.iload_n 1, 1) := fdf dAb_234.2.2.2.2.1
theorem dJ5_init_d00df_38 : decode cJ5_init_d00df 38 = .ok (.return_, 1) := fdf dAb_234.2.2.2.2.2.1
theorem dJ5_length_8abf5_0 : decode cJ5_length_8abf5 0 = .ok (.aload_n 0, 1) := fdf dAb_234.2.2.2.2.2.2.1
theorem dJ5_length_8abf5_1 : decode cJ5_length_8abf5 1 = .ok (.getfield 79, 3) := fdf dAb_234.2.2.2.2.2.2.2.1
theorem dJ5_length_8abf5_4 : decode cJ5_length_8abf5 4 = .ok (.ireturn, 1) := fdf dAb_234.2.2.2.2.2.2.2.2.1
theorem dJ5_ensureCapacityInternal_d00df_0 : decode cJ5_ensureCapacityInternal_d00df 0 = .ok (.aload_n 0, 1) := fdf dAb_234.2.2.2.2.2.2.2.2.2.1
theorem dJ5_ensureCapacityInternal_d00df_1 : decode cJ5_ensureCapacityInternal_d00df 1 = .ok (.getfield 15, 3) := fdf dAb_234.2.2.2.2.2.2.2.2.2.2.1
theorem dJ5_ensureCapacityInternal_d00df_4 : decode cJ5_ensureCapacityInternal_d00df 4 = .ok (.arraylength, 1) := fdf dAb_234.2.2.2.2.2.2.2.2.2.2.2.1
theorem dJ5_ensureCapacityInternal_d00df_5 : decode cJ5_ensureCapacityInternal_d00df 5 = .ok (.aload_n 0, 1) := fdf dAb_234.2.2.2.2.2.2.2.2.2.2.2.2.1
theorem dJ5_ensureCapacityInternal_d00df_6 : decode cJ5_ensureCapacityInternal_d00df 6 = .ok (.getfield 22, 3) := fdf dAb_234.2.2.2.2.2.2.2.2.2.2.2.2.2.1
theorem dJ5_ensureCapacityInternal_d00df_9 : decode cJ5_ensureCapacityInternal_d00df 9 = .ok (.ishr, 1) := fdf dAb_234.2.2.2.2.2.2.2.2.2.2.2.2.2.2.1
theorem dJ5_ensureCapacityInternal_d00df_10 : decode cJ5_ensureCapacityInternal_d00df 10 = .ok (.istore_n 2, 1) := fdf dAb_234.2.2.2.2.2.2.2.2.2.2.2.2.2.2.2
theorem dAb_235 : fdq cJ5_ensureCapacityInternal_d00df 11 (.iload_n 1) 1 = true ∧ fdq cJ5_ensureCapacityInternal_d00df 12 (.iload_n 2) 1 = true ∧ fdq cJ5_ensureCapacityInternal_d00df 13 (.isub) 1 = true ∧ fdq cJ5_ensureCapacityInternal_d00df 14 (.ifCond .le 24) 3 = true ∧ fdq cJ5_ensureCapacityInternal_d00df 17 (.aload_n 0) 1 = true ∧ fdq cJ5_ensureCapacityInternal_d00df 18 (.aload_n 0) 1 = true ∧ fdq cJ5_ensureCapacityInternal_d00df 19 (.getfield 15) 3 = true ∧ fdq cJ5_ensureCapacityInternal_d00df 22 (.aload_n 0) 1 = true ∧ fdq cJ5_ensureCapacityInternal_d00df 23 (.iload_n 1) 1 = true ∧ fdq cJ5_ensureCapacityInternal_d00df 24 (.invokevirtual 104) 3 = true ∧ fdq cJ5_ensureCapacityInternal_d00df 27 (.aload_n 0) 1 = true ∧ fdq cJ5_ensureCapacityInternal_d00df 28 (.getfield 22) 3 = true ∧ fdq cJ5_ensureCapacityInternal_d00df 31 (.ishl) 1 = true ∧ fdq cJ5_ensureCapacityInternal_d00df 32 (.invokestatic 108) 3 = true ∧ fdq cJ5_ensureCapacityInternal_d00df 35 (.putfield 15) 3 = true ∧ fdq cJ5_ensureCapacityInternal_d00df 38 (.return_) 1 = true := by decide +kernel
theorem dJ5_ensureCapacityInternal_d00df_11 : decode cJ5_ensureCapacityInternal_d00df 11 = .ok (.iload_n 1, 1) := fdf dAb_235.1
theorem dJ5_ensureCapacityInternal_d00df_12 : decode cJ5_ensureCapacityInternal_d00df 12 = .ok (.iload_n 2, 1) := fdf dAb_235.2.1
theorem dJ5_ensureCapacityInternal_d00df_13 : decode cJ5_ensureCapacityInternal_d00df 13 = .ok (.isub, 1) := fdf dAb_235.2.2.1
theorem dJ5_ensureCapacityInternal_d00df_14 : decode cJ5_ensureCapacityInternal_d00df 14 = .ok (.ifCond .le 24, 3) := fdf dAb_235.2.2.2.1
theorem dJ5_ensureCapacityInternal_d00df_17 : decode cJ5_ensureCapacityInternal_d00df 17 = .ok (.aload_n 0, 1) := fdf dAb_235.2.2.2.2.1
theorem dJ5_ensureCapacityInternal_d00df_18 : decode cJ5_ensureCapacityInternal_d00df 18 = .ok (.aload_n 0, 1) := fdf dAb_235.2.2.2.2.2.1
theorem dJ5_ensureCapacityInternal_d00df_19 : decode cJ5_ensureCapacityInternal_d00df 19 = .ok (.getfield 15, 3) := fdf dAb_235.2.2.2.2.2.2.1
theorem dJ5_ensureCapacityInternal_d00df_22 : decode cJ5_ensureCapacityInternal_d00df 22 = .ok (.aload_n 0, 1) := fdf dAb_235.2.2.2.2.2.2.2.1
theorem dJ5_ensureCapacityInternal_d00df_23 : decode cJ5_ensureCapacityInternal_d00df 23 = .ok (.iload_n 1, 1) := fdf dAb_235.2.2.2.2.2.2.2.2.1
theorem dJ5_ensureCapacityInternal_d00df_24 : decode cJ5_ensureCapacityInternal_d00df 24 = .ok (.invokevirtual 104, 3) := fdf dAb_235.2.2.2.2.2.2.2.2.2.1
theorem dJ5_ensureCapacityInternal_d00df_27 : decode cJ5_ensureCapacityInternal_d00df 27 = .ok (.aload_n 0, 1) := fdf dAb_235.2.2.2.2.2.2.2.2.2.2.1
theorem dJ5_ensureCapacityInternal_d00df_28 : decode cJ5_ensureCapacityInternal_d00df 28 = .ok (.getfield 22, 3) := fdf dAb_235.2.2.2.2.2.2.2.2.2.2.2.1
theorem dJ5_ensureCapacityInternal_d00df_31 : decode cJ5_ensureCapacityInternal_d00df 31 = .ok (.ishl, 1) := fdf dAb_235.2.2.2.2.2.2.2.2.2.2.2.2.1
theorem dJ5_ensureCapacityInternal_d00df_32 : decode cJ5_ensureCapacityInternal_d00df 32 = .ok (.invokestatic 108, 3) := fdf dAb_235.2.2.2.2.2.2.2.2.2.2.2.2.2.1
theorem dJ5_ensureCapacityInternal_d00df_35 : decode cJ5_ensureCapacityInternal_d00df 35 = .ok (.putfield 15, 3) := fdf dAb_235.2.2.2.2.2.2.2.2.2.2.2.2.2.2.1
theorem dJ5_ensureCapacityInternal_d00df_38 : decode cJ5_ensureCapacityInternal_d00df 38 = .ok (.return_, 1) := fdf dAb_235.2.2.2.2.2.2.2.2.2.2.2.2.2.2.2
theorem dAb_236 : fdq cJ5_newCapacity_0f7a4 0 (.aload_n 0) 1 = true ∧ fdq cJ5_newCapacity_0f7a4 1 (.getfield 15) 3 = true ∧ fdq cJ5_newCapacity_0f7a4 4 (.arraylength) 1 = true ∧ fdq cJ5_newCapacity_0f7a4 5 (.istore_n 2) 1 = true ∧ fdq cJ5_newCapacity_0f7a4 6 (.iload_n 1) 1 = true ∧ fdq cJ5_newCapacity_0f7a4 7 (.aload_n 0) 1 = true ∧ fdq cJ5_newCapacity_0f7a4 8 (.getfield 22) 3 = true ∧ fdq cJ5_newCapacity_0f7a4 11 (.ishl) 1 = true ∧ fdq cJ5_newCapacity_0f7a4 12 (.istore_n 3) 1 = true ∧ fdq cJ5_newCapacity_0f7a4 13 (.iload_n 3) 1 = true ∧ fdq cJ5_newCapacity_0f7a4 14 (.iload_n 2) 1 = true ∧ fdq cJ5_newCapacity_0f7a4 15 (.isub) 1 = true ∧ fdq cJ5_newCapacity_0f7a4 16 (.istore 4) 2 = true ∧ fdq cJ5_newCapacity_0f7a4 18 (.iload_n 2) 1 = true ∧ fdq cJ5_newCapacity_0f7a4 19 (.iload 4) 2 = true ∧ fdq cJ5_newCapacity_0f7a4 21 (.iload_n 2) 1 = true := by decide +kernel
theorem dJ5_newCapacity_0f7a4_0 : decode cJ5_newCapacity_0f7a4 0 = .ok (.aload_n 0, 1) := fdf dAb_236.1
theorem dJ5_newCapacity_0f7a4_1 : decode cJ5_newCapacity_0f7a4 1 = .ok (.getfield 15, 3) := fdf dAb_236.2.1
theorem dJ5_newCapacity_0f7a4_4 : decode cJ5_newCapacity_0f7a4 4 = .ok (.arraylength, 1) := fdf dAb_236.2.2.1
theorem dJ5_newCapacity_0f7a4_5 : decode cJ5_newCapacity_0f7a4 5 = .ok (.istore_n 2, 1) := fdf dAb_236.2.2.2.1
theorem dJ5_newCapacity_0f7a4_6 : decode cJ5_newCapacity_0f7a4 6 = .ok (.iload_n 1, 1) := fdf dAb_236.2.2.2.2.1
theorem dJ5_newCapacity_0f7a4_7 : decode cJ5_newCapacity_0f7a4 7 = .ok (.aload_n 0, 1) := fdf dAb_236.2.2.2.2.2.1
theorem dJ5_newCapacity_0f7a4_8 : decode cJ5_newCapacity_0f7a4 8 = .ok (.getfield 22, 3) := fdf dAb_236.2.2.2.2.2.2.1
theorem dJ5_newCapacity_0f7a4_11 : decode cJ5_newCapacity_0f7a4 11 = .ok (.ishl, 1) := fdf dAb_236.2.2.2.2.2.2.2.1
theorem dJ5_newCapacity_0f7a4_12 : decode cJ5_newCapacity_0f7a4 12 = .ok (.istore_n 3, 1) := fdf dAb_236.2.2.2.2.2.2.2.2.1
theorem dJ5_newCapacity_0f7a4_13 : decode cJ5_newCapacity_0f7a4 13 = .ok (.iload_n 3, 1) := fdf dAb_236.2.2.2.2.2.2.2.2.2.1
theorem dJ5_newCapacity_0f7a4_14 : decode cJ5_newCapacity_0f7a4 14 = .ok (.iload_n 2, 1) := fdf dAb_236.2.2.2.2.2.2.2.2.2.2.1
theorem dJ5_newCapacity_0f7a4_15 : decode cJ5_newCapacity_0f7a4 15 = .ok (.isub, 1) := fdf dAb_236.2.2.2.2.2.2.2.2.2.2.2.1
theorem dJ5_newCapacity_0f7a4_16 : decode cJ5_newCapacity_0f7a4 16 = .ok (.istore 4, 2) := fdf dAb_236.2.2.2.2.2.2.2.2.2.2.2.2.1
theorem dJ5_newCapacity_0f7a4_18 : decode cJ5_newCapacity_0f7a4 18 = .ok (.iload_n 2, 1) := fdf dAb_236.2.2.2.2.2.2.2.2.2.2.2.2.2.1
theorem dJ5_newCapacity_0f7a4_19 : decode cJ5_newCapacity_0f7a4 19 = .ok (.iload 4, 2) := fdf dAb_236.2.2.2.2.2.2.2.2.2.2.2.2.2.2.1
theorem dJ5_newCapacity_0f7a4_21 : decode cJ5_newCapacity_0f7a4 21 = .ok (.iload_n 2, 1) := fdf dAb_236.2.2.2.2.2.2.2.2.2.2.2.2.2.2.2
theorem dAb_237 : fdq cJ5_newCapacity_0f7a4 22 (.iconst 2) 1 = true ∧ fdq cJ5_newCapacity_0f7a4 23 (.aload_n 0) 1 = true ∧ fdq cJ5_newCapacity_0f7a4 24 (.getfield 22) 3 = true ∧ fdq cJ5_newCapacity_0f7a4 27 (.ishl) 1 = true ∧ fdq cJ5_newCapacity_0f7a4 28 (.iadd) 1 = true ∧ fdq cJ5_newCapacity_0f7a4 29 (.invokestatic 114) 3 = true ∧ fdq cJ5_newCapacity_0f7a4 32 (.istore 5) 2 = true ∧ fdq cJ5_newCapacity_0f7a4 34 (.iload 5) 2 = true ∧ fdq cJ5_newCapacity_0f7a4 36 (.ldc 39) 2 = true ∧ fdq cJ5_newCapacity_0f7a4 38 (.if_icmp .ne 13) 3 = true ∧ fdq cJ5_newCapacity_0f7a4 51 (.iload 5) 2 = true ∧ fdq cJ5_newCapacity_0f7a4 53 (.aload_n 0) 1 = true ∧ fdq cJ5_newCapacity_0f7a4 54 (.getfield 22) 3 = true ∧ fdq cJ5_newCapacity_0f7a4 57 (.ishr) 1 = true ∧ fdq cJ5_newCapacity_0f7a4 58 (.ireturn) 1 = true ∧ fdq cJ5_append_cf1ce 0 (.aload_n 1) 1 = true := by decide +kernel
theorem dJ5_newCapacity_0f7a4_22 : decode cJ5_newCapacity_0f7a4 22 = .ok (.iconst 2, 1) := fdf dAb_237.1
theorem dJ5_newCapacity_0f7a4_23 : decode cJ5_newCapacity_0f7a4 23 = .ok (.aload_n 0, 1) := fdf dAb_237.2.1
theorem dJ5_newCapacity_0f7a4_24 : decode cJ5_newCapacity_0f7a4 24 = .ok (.getfield 22, 3) := fdf dAb_237.2.2.1
theorem dJ5_newCapacity_0f7a4_27 : decode cJ5_newCapacity_0f7a4 27 = .ok (.ishl, 1) := fdf dAb_237.2.2.2.1
theorem dJ5_newCapacity_0f7a4_28 : decode cJ5_newCapacity_0f7a4 28 = .ok (.iadd, 1) := fdf dAb_237.2.2.2.2.1
theorem dJ5_newCapacity_0f7a4_29 : decode cJ5_newCapacity_0f7a4 29 = .ok (.invokestatic 114, 3) := fdf dAb_237.2.2.2.2.2.1
theorem dJ5_newCapacity_0f7a4_32 : decode cJ5_newCapacity_0f7a4 32 = .ok (.istore 5, 2) := fdf dAb_237.2.2.2.2.2.2.1
theorem dJ5_newCapacity_0f7a4_34 : decode cJ5_newCapacity_0f7a4 34 = .ok (.iload 5, 2) := fdf dAb_237.2.2.2.2.2.2.2.1
theorem dJ5_newCapacity_0f7a4_36 : decode cJ5_newCapacity_0f7a4 36 = .ok (.ldc 39, 2) := fdf dAb_237.2.2.2.2.2.2.2.2.1
theorem dJ5_newCapacity_0f7a4_38 : decode cJ5_newCapacity_0f7a4 38 = .ok (.if_icmp .ne 13, 3) := fdf dAb_237.2.2.2.2.2.2.2.2.2.1
theorem dJ5_newCapacity_0f7a4_51 : decode cJ5_newCapacity_0f7a4 51 = .ok (.iload 5, 2) := fdf dAb_237.2.2.2.2.2.2.2.2.2.2.1
theorem dJ5_newCapacity_0f7a4_53 : decode cJ5_newCapacity_0f7a4 53 = .ok (.aload_n 0, 1) := fdf dAb_237.2.2.2.2.2.2.2.2.2.2.2.1
theorem dJ5_newCapacity_0f7a4_54 : decode cJ5_newCapacity_0f7a4 54 = .ok (.getfield 22, 3) := fdf dAb_237.2.2.2.2.2.2.2.2.2.2.2.2.1
theorem dJ5_newCapacity_0f7a4_57 : decode cJ5_newCapacity_0f7a4 57 = .ok (.ishr, 1) := fdf dAb_237.2.2.2.2.2.2.2.2.2.2.2.2.2.1
theorem dJ5_newCapacity_0f7a4_58 : decode cJ5_newCapacity_0f7a4 58 = .ok (.ireturn, 1) := fdf dAb_237.2.2.2.2.2.2.2.2.2.2.2.2.2.2.1
theorem dJ5_append_cf1ce_0 : decode cJ5_append_cf1ce 0 = .ok (.aload_n 1, 1) := fdf dAb_237.2.2.2.2.2.2.2.2.2.2.2.2.2.2.2
theorem dAb_238 : fdq cJ5_append_cf1ce 1 (.ifnonnull 8) 3 = true ∧ fdq cJ5_append_cf1ce 4 (.aload_n 0) 1 = true ∧ fdq cJ5_append_cf1ce 9 (.aload_n 1) 1 = true ∧ fdq cJ5_append_cf1ce 10 (.invokevirtual 32) 3 = true ∧ fdq cJ5_append_cf1ce 13 (.istore_n 2) 1 = true ∧ fdq cJ5_append_cf1ce 14 (.aload_n 0) 1 = true ∧ fdq cJ5_append_cf1ce 15 (.aload_n 0) 1 = true ∧ fdq cJ5_append_cf1ce 16 (.getfield 79) 3 = true ∧ fdq cJ5_append_cf1ce 19 (.iload_n 2) 1 = true ∧ fdq cJ5_append_cf1ce 20 (.iadd) 1 = true ∧ fdq cJ5_append_cf1ce 21 (.invokevirtual 100) 3 = true ∧ fdq cJ5_append_cf1ce 24 (.aload_n 0) 1 = true ∧ fdq cJ5_append_cf1ce 25 (.aload_n 0) 1 = true ∧ fdq cJ5_append_cf1ce 26 (.getfield 79) 3 = true ∧ fdq cJ5_append_cf1ce 29 (.aload_n 1) 1 = true ∧ fdq cJ5_append_cf1ce 30 (.invokevirtual 208) 3 = true := by decide +kernel
theorem dJ5_append_cf1ce_1 : decode cJ5_append_cf1ce 1 = .ok (.ifnonnull 8, 3) := fdf dAb_238.1
theorem dJ5_append_cf1ce_4 : decode cJ5_append_cf1ce 4 = .ok (.aload_n 0, 1) := fdf dAb_238.2.1
theorem dJ5_append_cf1ce_9 : decode cJ5_append_cf1ce 9 = .ok (.aload_n 1, 1) := fdf dAb_238.2.2.1
theorem dJ5_append_cf1ce_10 : decode cJ5_append_cf1ce 10 = .ok (.invokevirtual 32, 3) := fdf dAb_238.2.2.2.1
theorem dJ5_append_cf1ce_13 : decode cJ5_append_cf1ce 13 = .ok (.istore_n 2, 1) := fdf dAb_238.2.2.2.2.1
theorem dJ5_append_cf1ce_14 : decode cJ5_append_cf1ce 14 = .ok (.aload_n 0, 1) := fdf dAb_238.2.2.2.2.2.1
theorem dJ5_append_cf1ce_15 : decode cJ5_append_cf1ce 15 = .ok (.aload_n 0, 1) := fdf dAb_238.2.2.2.2.2.2.1
theorem dJ5_append_cf1ce_16 : decode cJ5_append_cf1ce 16 = .ok (.getfield 79, 3) := fdf dAb_238.2.2.2.2.2.2.2.1
theorem dJ5_append_cf1ce_19 : decode cJ5_append_cf1ce 19 = .ok (.iload_n 2, 1) := fdf dAb_238.2.2.2.2.2.2.2.2.1
theorem dJ5_append_cf1ce_20 : decode cJ5_append_cf1ce 20 = .ok (.iadd, 1) := fdf dAb_238.2.2.2.2.2.2.2.2.2.1
theorem dJ5_append_cf1ce_21 : decode cJ5_append_cf1ce 21 = .ok (.invokevirtual 100, 3) := fdf dAb_238.2.2.2.2.2.2.2.2.2.2.1
theorem dJ5_append_cf1ce_24 : decode cJ5_append_cf1ce 24 = .ok (.aload_n 0, 1) := fdf dAb_238.2.2.2.2.2.2.2.2.2.2.2.1
theorem dJ5_append_cf1ce_25 : decode cJ5_append_cf1ce 25 = .ok (.aload_n 0, 1) := fdf dAb_238.2.2.2.2.2.2.2.2.2.2.2.2.1
theorem dJ5_append_cf1ce_26 : decode cJ5_append_cf1ce 26 = .ok (.getfield 79, 3) := fdf dAb_238.2.2.2.2.2.2.2.2.2.2.2.2.2.1
theorem dJ5_append_cf1ce_29 : decode cJ5_append_cf1ce 29 = .ok (.aload_n 1, 1) := fdf dAb_238.2.2.2.2.2.2.2.2.2.2.2.2.2.2.1
theorem dJ5_append_cf1ce_30 : decode cJ5_append_cf1ce 30 = .ok (.invokevirtual 208, 3) := fdf dAb_238.2.2.2.2.2.2.2.2.2.2.2.2.2.2.2
theorem dAb_239 : fdq cJ5_append_cf1ce 33 (.aload_n 0) 1 = true ∧ fdq cJ5_append_cf1ce 34 (.dup) 1 = true ∧ fdq cJ5_append_cf1ce 35 (.getfield 79) 3 = true ∧ fdq cJ5_append_cf1ce 38 (.iload_n 2) 1 = true ∧ fdq cJ5_append_cf1ce 39 (.iadd) 1 = true ∧ fdq cJ5_append_cf1ce 40 (.putfield 79) 3 = true ∧ fdq cJ5_append_cf1ce 43 (.aload_n 0) 1 = true ∧ fdq cJ5_append_cf1ce 44 (.areturn) 1 = true ∧ fdq cJ5_append_3fe6f 0 (.aload_n 0) 1 = true ∧ fdq cJ5_append_3fe6f 1 (.aload_n 0) 1 = true ∧ fdq cJ5_append_3fe6f 2 (.getfield 79) 3 = true ∧ fdq cJ5_append_3fe6f 5 (.iconst 1) 1 = true ∧ fdq cJ5_append_3fe6f 6 (.iadd) 1 = true ∧ fdq cJ5_append_3fe6f 7 (.invokevirtual 100) 3 = true ∧ fdq cJ5_append_3fe6f 10 (.aload_n 0) 1 = true ∧ fdq cJ5_append_3fe6f 11 (.invokevirtual 83) 3 = true := by decide +kernel
theorem dJ5_append_cf1ce_33 : decode cJ5_append_cf1ce 33 = .ok (.aload_n 0, 1) := fdf dAb_239.1
theorem dJ5_append_cf1ce_34 : decode cJ5_append_cf1ce 34 = .ok (.dup, 1) := fdf dAb_239.2.1
theorem dJ5_append_cf1ce_35 : decode cJ5_append_cf1ce 35 = .ok (.getfield 79, 3) := fdf dAb_239.2.2.1
theorem dJ5_append_cf1ce_38 : decode cJ5_append_cf1ce 38 = .ok (.iload_n 2, 1) := fdf dAb_239.2.2.2.1
theorem dJ5_append_cf1ce_39 : decode cJ5_append_cf1ce 39 = .ok (.iadd, 1) := fdf dAb_239.2.2.2.2.1
theorem dJ5_append_cf1ce_40 : decode cJ5_append_cf1ce 40 = .ok (.putfield 79, 3) := fdf dAb_239.2.2.2.2.2.1
theorem dJ5_append_cf1ce_43 : decode cJ5_append_cf1ce 43 = .ok (.aload_n 0, 1) := fdf dAb_239.2.2.2.2.2.2.1
theorem dJ5_append_cf1ce_44 : decode cJ5_append_cf1ce 44 = .ok (.areturn, 1) := fdf dAb_239.2.2.2.2.2.2.2.1
theorem dJ5_append_3fe6f_0 : decode cJ5_append_3fe6f 0 = .ok (.aload_n 0, 1) := fdf dAb_239.2.2.2.2.2.2.2.2.1
theorem dJ5_append_3fe6f_1 : decode cJ5_append_3fe6f 1 = .ok (.aload_n 0, 1) := fdf dAb_239.2.2.2.2.2.2.2.2.2.1
theorem dJ5_append_3fe6f_2 : decode cJ5_append_3fe6f 2 = .ok (.getfield 79, 3) := fdf dAb_239.2.2.2.2.2.2.2.2.2.2.1
theorem dJ5_append_3fe6f_5 : decode cJ5_append_3fe6f 5 = .ok (.iconst 1, 1) := fdf dAb_239.2.2.2.2.2.2.2.2.2.2.2.1
theorem dJ5_append_3fe6f_6 : decode cJ5_append_3fe6f 6 = .ok (.iadd, 1) := fdf dAb_239.2.2.2.2.2.2.2.2.2.2.2.2.1
theorem dJ5_append_3fe6f_7 : decode cJ5_append_3fe6f 7 = .ok (.invokevirtual 100, 3) := fdf dAb_239.2.2.2.2.2.2.2.2.2.2.2.2.2.1
theorem dJ5_append_3fe6f_10 : decode cJ5_append_3fe6f 10 = .ok (.aload_n 0, 1) := fdf dAb_239.2.2.2.2.2.2.2.2.2.2.2.2.2.2.1
theorem dJ5_append_3fe6f_11 : decode cJ5_append_3fe6f 11 = .ok (.invokevirtual 83, 3) := fdf dAb_239.2.2.2.2.2.2.2.2.2.2.2.2.2.2.2
theorem dAb_240 : fdq cJ5_append_3fe6f 14 (.ifCond .eq 31) 3 = true ∧ fdq cJ5_append_3fe6f 17 (.iload_n 1) 1 = true ∧ fdq cJ5_append_3fe6f 18 (.invokestatic 191) 3 = true ∧ fdq cJ5_append_3fe6f 21 (.ifCond .eq 24) 3 = true ∧ fdq cJ5_append_3fe6f 24 (.aload_n 0) 1 = true ∧ fdq cJ5_append_3fe6f 25 (.getfield 15) 3 = true ∧ fdq cJ5_append_3fe6f 28 (.aload_n 0) 1 = true ∧ fdq cJ5_append_3fe6f 29 (.dup) 1 = true ∧ fdq cJ5_append_3fe6f 30 (.getfield 79) 3 = true ∧ fdq cJ5_append_3fe6f 33 (.dup_x1) 1 = true ∧ fdq cJ5_append_3fe6f 34 (.iconst 1) 1 = true ∧ fdq cJ5_append_3fe6f 35 (.iadd) 1 = true ∧ fdq cJ5_append_3fe6f 36 (.putfield 79) 3 = true ∧ fdq cJ5_append_3fe6f 39 (.iload_n 1) 1 = true ∧ fdq cJ5_append_3fe6f 40 (.i2b) 1 = true ∧ fdq cJ5_append_3fe6f 41 (.bastore) 1 = true := by decide +kernel
theorem dJ5_append_3fe6f_14 : decode cJ5_append_3fe6f 14 = .ok (.ifCond .eq 31, 3) := fdf dAb_240.1
theorem dJ5_append_3fe6f_17 : decode cJ5_append_3fe6f 17 = .ok (.iload_n 1, 1) := fdf dAb_240.2.1
theorem dJ5_append_3fe6f_18 : decode cJ5_append_3fe6f 18 = .ok (.invokestatic 191, 3) := fdf dAb_240.2.2.1
theorem dJ5_append_3fe6f_21 : decode cJ5_append_3fe6f 21 = .ok (.ifCond .eq 24, 3) := fdf dAb_240.2.2.2.1
theorem dJ5_append_3fe6f_24 : decode cJ5_append_3fe6f 24 = .ok (.aload_n 0, 1) := fdf dAb_240.2.2.2.2.1
theorem dJ5_append_3fe6f_25 : decode cJ5_append_3fe6f 25 = .ok (.getfield 15, 3) := fdf dAb_240.2.2.2.2.2.1
theorem dJ5_append_3fe6f_28 : decode cJ5_append_3fe6f 28 = .ok (.aload_n 0, 1) := fdf dAb_240.2.2.2.2.2.2.1
theorem dJ5_append_3fe6f_29 : decode cJ5_append_3fe6f 29 = .ok (.dup, 1) := fdf dAb_240.2.2.2.2.2.2.2.1
theorem dJ5_append_3fe6f_30 : decode cJ5_append_3fe6f 30 = .ok (.getfield 79, 3) := fdf dAb_240.2.2.2.2.2.2.2.2.1
theorem dJ5_append_3fe6f_33 : decode cJ5_append_3fe6f 33 = .ok (.dup_x1, 1) := fdf dAb_240.2.2.2.2.2.2.2.2.2.1
theorem dJ5_append_3fe6f_34 : decode cJ5_append_3fe6f 34 = .ok (.iconst 1, 1) := fdf dAb_240.2.2.2.2.2.2.2.2.2.2.1
theorem dJ5_append_3fe6f_35 : decode cJ5_append_3fe6f 35 = .ok (.iadd, 1) := fdf dAb_240.2.2.2.2.2.2.2.2.2.2.2.1
theorem dJ5_append_3fe6f_36 : decode cJ5_append_3fe6f 36 = .ok (.putfield 79, 3) := fdf dAb_240.2.2.2.2.2.2.2.2.2.2.2.2.1
theorem dJ5_append_3fe6f_39 : decode cJ5_append_3fe6f 39 = .ok (.iload_n 1, 1) := fdf dAb_240.2.2.2.2.2.2.2.2.2.2.2.2.2.1
theorem dJ5_append_3fe6f_40 : decode cJ5_append_3fe6f 40 = .ok (.i2b, 1) := fdf dAb_240.2.2.2.2.2.2.2.2.2.2.2.2.2.2.1
theorem dJ5_append_3fe6f_41 : decode cJ5_append_3fe6f 41 = .ok (.bastore, 1) := fdf dAb_240.2.2.2.2.2.2.2.2.2.2.2.2.2.2.2
theorem dAb_241 : fdq cJ5_append_3fe6f 42 (.goto 33) 3 = true ∧ fdq cJ5_append_3fe6f 45 (.aload_n 0) 1 = true ∧ fdq cJ5_append_3fe6f 46 (.invokevirtual 83) 3 = true ∧ fdq cJ5_append_3fe6f 49 (.ifCond .eq 7) 3 = true ∧ fdq cJ5_append_3fe6f 52 (.aload_n 0) 1 = true ∧ fdq cJ5_append_3fe6f 56 (.aload_n 0) 1 = true ∧ fdq cJ5_append_3fe6f 57 (.getfield 15) 3 = true ∧ fdq cJ5_append_3fe6f 60 (.aload_n 0) 1 = true ∧ fdq cJ5_append_3fe6f 61 (.dup) 1 = true ∧ fdq cJ5_append_3fe6f 62 (.getfield 79) 3 = true ∧ fdq cJ5_append_3fe6f 65 (.dup_x1) 1 = true ∧ fdq cJ5_append_3fe6f 66 (.iconst 1) 1 = true ∧ fdq cJ5_append_3fe6f 67 (.iadd) 1 = true ∧ fdq cJ5_append_3fe6f 68 (.putfield 79) 3 = true ∧ fdq cJ5_append_3fe6f 71 (.iload_n 1) 1 = true ∧ fdq cJ5_append_3fe6f 75 (.aload_n 0) 1 = true := by decide +kernel
theorem dJ5_append_3fe6f_42 : decode cJ5_append_3fe6f 42 = .ok (.goto 33, 3) := fdf dAb_241.1
theorem dJ5_append_3fe6f_45 : decode cJ5_append_3fe6f 45 = .ok (.aload_n 0, 1) := fdf dAb_241.2.1
theorem dJ5_append_3fe6f_46 : decode cJ5_append_3fe6f 46 = .ok (.invokevirtual 83, 3) := fdf dAb_241.2.2.1
theorem dJ5_append_3fe6f_49 : decode cJ5_append_3fe6f 49 = .ok (.ifCond .eq 7, 3) := fdf dAb_241.2.2.2.1
theorem dJ5_append_3fe6f_52 : decode cJ5_append_3fe6f 52 = .ok (.aload_n 0, 1) := fdf dAb_241.2.2.2.2.1
theorem dJ5_append_3fe6f_56 : decode cJ5_append_3fe6f 56 = .ok (.aload_n 0, 1) := fdf dAb_241.2.2.2.2.2.1
theorem dJ5_append_3fe6f_57 : decode cJ5_append_3fe6f 57 = .ok (.getfield 15, 3) := fdf dAb_241.2.2.2.2.2.2.1
theorem dJ5_append_3fe6f_60 : decode cJ5_append_3fe6f 60 = .ok (.aload_n 0, 1) := fdf dAb_241.2.2.2.2.2.2.2.1
theorem dJ5_append_3fe6f_61 : decode cJ5_append_3fe6f 61 = .ok (.dup, 1) := fdf dAb_241.2.2.2.2.2.2.2.2.1
theorem dJ5_append_3fe6f_62 : decode cJ5_append_3fe6f 62 = .ok (.getfield 79, 3) := fdf dAb_241.2.2.2.2.2.2.2.2.2.1
theorem dJ5_append_3fe6f_65 : decode cJ5_append_3fe6f 65 = .ok (.dup_x1, 1) := fdf dAb_241.2.2.2.2.2.2.2.2.2.2.1
theorem dJ5_append_3fe6f_66 : decode cJ5_append_3fe6f 66 = .ok (.iconst 1, 1) := fdf dAb_241.2.2.2.2.2.2.2.2.2.2.2.1
theorem dJ5_append_3fe6f_67 : decode cJ5_append_3fe6f 67 = .ok (.iadd, 1) := fdf dAb_241.2.2.2.2.2.2.2.2.2.2.2.2.1
theorem dJ5_append_3fe6f_68 : decode cJ5_append_3fe6f 68 = .ok (.putfield 79, 3) := fdf dAb_241.2.2.2.2.2.2.2.2.2.2.2.2.2.1
theorem dJ5_append_3fe6f_71 : decode cJ5_append_3fe6f 71 = .ok (.iload_n 1, 1) := fdf dAb_241.2.2.2.2.2.2.2.2.2.2.2.2.2.2.1
theorem dJ5_append_3fe6f_75 : decode cJ5_append_3fe6f 75 = .ok (.aload_n 0, 1) := fdf dAb_241.2.2.2.2.2.2.2.2.2.2.2.2.2.2.2
theorem dAb_242 : fdq cJ5_append_3fe6f 76 (.areturn) 1 = true ∧ fdq cJ5_append_c97b9 0 (.aload_n 0) 1 = true ∧ fdq cJ5_append_c97b9 1 (.getfield 79) 3 = true ∧ fdq cJ5_append_c97b9 4 (.istore_n 2) 1 = true ∧ fdq cJ5_append_c97b9 5 (.iload_n 2) 1 = true ∧ fdq cJ5_append_c97b9 6 (.iload_n 1) 1 = true ∧ fdq cJ5_append_c97b9 7 (.invokestatic 245) 3 = true ∧ fdq cJ5_append_c97b9 10 (.iadd) 1 = true ∧ fdq cJ5_append_c97b9 11 (.istore_n 3) 1 = true ∧ fdq cJ5_append_c97b9 12 (.aload_n 0) 1 = true ∧ fdq cJ5_append_c97b9 13 (.iload_n 3) 1 = true ∧ fdq cJ5_append_c97b9 14 (.invokevirtual 100) 3 = true ∧ fdq cJ5_append_c97b9 17 (.aload_n 0) 1 = true ∧ fdq cJ5_append_c97b9 18 (.invokevirtual 83) 3 = true ∧ fdq cJ5_append_c97b9 21 (.ifCond .eq 16) 3 = true ∧ fdq cJ5_append_c97b9 24 (.iload_n 1) 1 = true := by decide +kernel
theorem dJ5_append_3fe6f_76 : decode cJ5_append_3fe6f 76 = .ok (.areturn, 1) := fdf dAb_242.1
theorem dJ5_append_c97b9_0 : decode cJ5_append_c97b9 0 = .ok (.aload_n 0, 1) := fdf dAb_242.2.1
theorem dJ5_append_c97b9_1 : decode cJ5_append_c97b9 1 = .ok (.getfield 79, 3) := fdf dAb_242.2.2.1
theorem dJ5_append_c97b9_4 : decode cJ5_append_c97b9 4 = .ok (.istore_n 2, 1) := fdf dAb_242.2.2.2.1
theorem dJ5_append_c97b9_5 : decode cJ5_append_c97b9 5 = .ok (.iload_n 2, 1) := fdf dAb_242.2.2.2.2.1
theorem dJ5_append_c97b9_6 : decode cJ5_append_c97b9 6 = .ok (.iload_n 1, 1) := fdf dAb_242.2.2.2.2.2.1
theorem dJ5_append_c97b9_7 : decode cJ5_append_c97b9 7 = .ok (.invokestatic 245, 3) := fdf dAb_242.2.2.2.2.2.2.1
theorem dJ5_append_c97b9_10 : decode cJ5_append_c97b9 10 = .ok (.iadd, 1) := fdf dAb_242.2.2.2.2.2.2.2.1
theorem dJ5_append_c97b9_11 : decode cJ5_append_c97b9 11 = .ok (.istore_n 3, 1) := fdf dAb_242.2.2.2.2.2.2.2.2.1
theorem dJ5_append_c97b9_12 : decode cJ5_append_c97b9 12 = .ok (.aload_n 0, 1) := fdf dAb_242.2.2.2.2.2.2.2.2.2.1
theorem dJ5_append_c97b9_13 : decode cJ5_append_c97b9 13 = .ok (.iload_n 3, 1) := fdf dAb_242.2.2.2.2.2.2.2.2.2.2.1
theorem dJ5_append_c97b9_14 : decode cJ5_append_c97b9 14 = .ok (.invokevirtual 100, 3) := fdf dAb_242.2.2.2.2.2.2.2.2.2.2.2.1
theorem dJ5_append_c97b9_17 : decode cJ5_append_c97b9 17 = .ok (.aload_n 0, 1) := fdf dAb_242.2.2.2.2.2.2.2.2.2.2.2.2.1
theorem dJ5_append_c97b9_18 : decode cJ5_append_c97b9 18 = .ok (.invokevirtual 83, 3) := fdf dAb_242.2.2.2.2.2.2.2.2.2.2.2.2.2.1
theorem dJ5_append_c97b9_21 : decode cJ5_append_c97b9 21 = .ok (.ifCond .eq 16, 3) := fdf dAb_242.2.2.2.2.2.2.2.2.2.2.2.2.2.2.1
theorem dJ5_append_c97b9_24 : decode cJ5_append_c97b9 24 = .ok (.iload_n 1, 1) := fdf dAb_242.2.2.2.2.2.2.2.2.2.2.2.2.2.2.2
theorem dAb_243 : fdq cJ5_append_c97b9 25 (.iload_n 3) 1 = true ∧ fdq cJ5_append_c97b9 26 (.aload_n 0) 1 = true ∧ fdq cJ5_append_c97b9 27 (.getfield 15) 3 = true ∧ fdq cJ5_append_c97b9 30 (.invokestatic 248) 3 = true ∧ fdq cJ5_append_c97b9 33 (.pop) 1 = true ∧ fdq cJ5_append_c97b9 34 (.goto 14) 3 = true ∧ fdq cJ5_append_c97b9 37 (.iload_n 1) 1 = true ∧ fdq cJ5_append_c97b9 38 (.iload_n 2) 1 = true ∧ fdq cJ5_append_c97b9 39 (.iload_n 3) 1 = true ∧ fdq cJ5_append_c97b9 40 (.aload_n 0) 1 = true ∧ fdq cJ5_append_c97b9 41 (.getfield 15) 3 = true ∧ fdq cJ5_append_c97b9 48 (.aload_n 0) 1 = true ∧ fdq cJ5_append_c97b9 49 (.iload_n 3) 1 = true ∧ fdq cJ5_append_c97b9 50 (.putfield 79) 3 = true ∧ fdq cJ5_append_c97b9 53 (.aload_n 0) 1 = true ∧ fdq cJ5_append_c97b9 54 (.areturn) 1 = true := by decide +kernel
theorem dJ5_append_c97b9_25 : decode cJ5_append_c97b9 25 = .ok (.iload_n 3, 1) := fdf dAb_243.1
theorem dJ5_append_c97b9_26 : decode cJ5_append_c97b9 26 = .ok (.aload_n 0, 1) := fdf dAb_243.2.1
theorem dJ5_append_c97b9_27 : decode cJ5_append_c97b9 27 = .ok (.getfield 15, 3) := fdf dAb_243.2.2.1
theorem dJ5_append_c97b9_30 : decode cJ5_append_c97b9 30 = .ok (.invokestatic 248, 3) := fdf dAb_243.2.2.2.1
theorem dJ5_append_c97b9_33 : decode cJ5_append_c97b9 33 = .ok (.pop, 1) := fdf dAb_243.2.2.2.2.1
theorem dJ5_append_c97b9_34 : decode cJ5_append_c97b9 34 = .ok (.goto 14, 3) := fdf dAb_243.2.2.2.2.2.1
theorem dJ5_append_c97b9_37 : decode cJ5_append_c97b9 37 = .ok (.iload_n 1, 1) := fdf dAb_243.2.2.2.2.2.2.1
theorem dJ5_append_c97b9_38 : decode cJ5_append_c97b9 38 = .ok (.iload_n 2, 1) := fdf dAb_243.2.2.2.2.2.2.2.1
theorem dJ5_append_c97b9_39 : decode cJ5_append_c97b9 39 = .ok (.iload_n 3, 1) := fdf dAb_243.2.2.2.2.2.2.2.2.1
theorem dJ5_append_c97b9_40 : decode cJ5_append_c97b9 40 = .ok (.aload_n 0, 1) := fdf dAb_243.2.2.2.2.2.2.2.2.2.1
theorem dJ5_append_c97b9_41 : decode cJ5_append_c97b9 41 = .ok (.getfield 15, 3) := fdf dAb_243.2.2.2.2.2.2.2.2.2.2.1
theorem dJ5_append_c97b9_48 : decode cJ5_append_c97b9 48 = .ok (.aload_n 0, 1) := fdf dAb_243.2.2.2.2.2.2.2.2.2.2.2.1
theorem dJ5_append_c97b9_49 : decode cJ5_append_c97b9 49 = .ok (.iload_n 3, 1) := fdf dAb_243.2.2.2.2.2.2.2.2.2.2.2.2.1
theorem dJ5_append_c97b9_50 : decode cJ5_append_c97b9 50 = .ok (.putfield 79, 3) := fdf dAb_243.2.2.2.2.2.2.2.2.2.2.2.2.2.1
theorem dJ5_append_c97b9_53 : decode cJ5_append_c97b9 53 = .ok (.aload_n 0, 1) := fdf dAb_243.2.2.2.2.2.2.2.2.2.2.2.2.2.2.1
theorem dJ5_append_c97b9_54 : decode cJ5_append_c97b9 54 = .ok (.areturn, 1) := fdf dAb_243.2.2.2.2.2.2.2.2.2.2.2.2.2.2.2
theorem dAb_244 : fdq cJ5_getValue_6d5f1 0 (.aload_n 0) 1 = true ∧ fdq cJ5_getValue_6d5f1 1 (.getfield 15) 3 = true ∧ fdq cJ5_getValue_6d5f1 4 (.areturn) 1 = true ∧ fdq cJ5_isLatin1_aae02 0 (.getstatic 18) 3 = true ∧ fdq cJ5_isLatin1_aae02 3 (.ifCond .eq 14) 3 = true ∧ fdq cJ5_isLatin1_aae02 6 (.aload_n 0) 1 = true ∧ fdq cJ5_isLatin1_aae02 7 (.getfield 22) 3 = true ∧ fdq cJ5_isLatin1_aae02 10 (.ifCond .ne 7) 3 = true ∧ fdq cJ5_isLatin1_aae02 13 (.iconst 1) 1 = true ∧ fdq cJ5_isLatin1_aae02 14 (.goto 4) 3 = true ∧ fdq cJ5_isLatin1_aae02 17 (.iconst 0) 1 = true ∧ fdq cJ5_isLatin1_aae02 18 (.ireturn) 1 = true ∧ fdq cJ5_inflateIfNeededFor_a7421 0 (.getstatic 18) 3 = true ∧ fdq cJ5_inflateIfNeededFor_a7421 3 (.ifCond .eq 18) 3 = true ∧ fdq cJ5_inflateIfNeededFor_a7421 6 (.aload_n 0) 1 = true ∧ fdq cJ5_inflateIfNeededFor_a7421 7 (.getfield 22) 3 = true := by decide +kernel
theorem dJ5_getValue_6d5f1_0 : decode cJ5_getValue_6d5f1 0 = .ok (.aload_n 0, 1) := fdf dAb_244.1
theorem dJ5_getValue_6d5f1_1 : decode cJ5_getValue_6d5f1 1 = .ok (.getfield 15, 3) := fdf dAb_244.2.1
theorem dJ5_getValue_6d5f1_4 : decode cJ5_getValue_6d5f1 4 = .ok (.areturn, 1) := fdf dAb_244.2.2.1
theorem dJ5_isLatin1_aae02_0 : decode cJ5_isLatin1_aae02 0 = .ok (.getstatic 18, 3) := fdf dAb_244.2.2.2.1
theorem dJ5_isLatin1_aae02_3 : decode cJ5_isLatin1_aae02 3 = .ok (.ifCond .eq 14, 3) := fdf dAb_244.2.2.2.2.1
theorem dJ5_isLatin1_aae02_6 : decode cJ5_isLatin1_aae02 6 = .ok (.aload_n 0, 1) := fdf dAb_244.2.2.2.2.2.1
theorem dJ5_isLatin1_aae02_7 : decode cJ5_isLatin1_aae02 7 = .ok (.getfield 22, 3) := fdf dAb_244.2.2.2.2.2.2.1
theorem dJ5_isLatin1_aae02_10 : decode cJ5_isLatin1_aae02 10 = .ok (.ifCond .ne 7, 3) := fdf dAb_244.2.2.2.2.2.2.2.1
theorem dJ5_isLatin1_aae02_13 : decode cJ5_isLatin1_aae02 13 = .ok (.iconst 1, 1) := fdf dAb_244.2.2.2.2.2.2.2.2.1
theorem dJ5_isLatin1_aae02_14 : decode cJ5_isLatin1_aae02 14 = .ok (.goto 4, 3) := fdf dAb_244.2.2.2.2.2.2.2.2.2.1
theorem dJ5_isLatin1_aae02_17 : decode cJ5_isLatin1_aae02 17 = .ok (.iconst 0, 1) := fdf dAb_244.2.2.2.2.2.2.2.2.2.2.1
theorem dJ5_isLatin1_aae02_18 : decode cJ5_isLatin1_aae02 18 = .ok (.ireturn, 1) := fdf dAb_244.2.2.2.2.2.2.2.2.2.2.2.1
theorem dJ5_inflateIfNeededFor_a7421_0 : decode cJ5_inflateIfNeededFor_a7421 0 = .ok (.getstatic 18, 3) := fdf dAb_244.2.2.2.2.2.2.2.2.2.2.2.2.1
theorem dJ5_inflateIfNeededFor_a7421_3 : decode cJ5_inflateIfNeededFor_a7421 3 = .ok (.ifCond .eq 18, 3) := fdf dAb_244.2.2.2.2.2.2.2.2.2.2.2.2.2.1
theorem dJ5_inflateIfNeededFor_a7421_6 : decode cJ5_inflateIfNeededFor_a7421 6 = .ok (.aload_n 0, 1) := fdf dAb_244.2.2.2.2.2.2.2.2.2.2.2.2.2.2.1
theorem dJ5_inflateIfNeededFor_a7421_7 : decode cJ5_inflateIfNeededFor_a7421 7 = .ok (.getfield 22, 3) := fdf dAb_244.2.2.2.2.2.2.2.2.2.2.2.2.2.2.2
theorem dAb_245 : fdq cJ5_inflateIfNeededFor_a7421 10 (.aload_n 1) 1 = true ∧ fdq cJ5_inflateIfNeededFor_a7421 11 (.invokevirtual 40) 3 = true ∧ fdq cJ5_inflateIfNeededFor_a7421 14 (.if_icmp .eq 7) 3 = true ∧ fdq cJ5_inflateIfNeededFor_a7421 17 (.aload_n 0) 1 = true ∧ fdq cJ5_inflateIfNeededFor_a7421 21 (.return_) 1 = true ∧ fdq cJ5_putStringAt_47b60 0 (.aload_n 0) 1 = true ∧ fdq cJ5_putStringAt_47b60 1 (.aload_n 2) 1 = true ∧ fdq cJ5_putStringAt_47b60 2 (.invokevirtual 397) 3 = true ∧ fdq cJ5_putStringAt_47b60 5 (.aload_n 2) 1 = true ∧ fdq cJ5_putStringAt_47b60 6 (.aload_n 0) 1 = true ∧ fdq cJ5_putStringAt_47b60 7 (.getfield 15) 3 = true ∧ fdq cJ5_putStringAt_47b60 10 (.iload_n 1) 1 = true ∧ fdq cJ5_putStringAt_47b60 11 (.aload_n 0) 1 = true ∧ fdq cJ5_putStringAt_47b60 12 (.getfield 22) 3 = true ∧ fdq cJ5_putStringAt_47b60 15 (.invokevirtual 399) 3 = true ∧ fdq cJ5_putStringAt_47b60 18 (.return_) 1 = true := by decide +kernel
theorem dJ5_inflateIfNeededFor_a7421_10 : decode cJ5_inflateIfNeededFor_a7421 10 = .ok (.aload_n 1, 1) := fdf dAb_245.1
theorem dJ5_inflateIfNeededFor_a7421_11 : decode cJ5_inflateIfNeededFor_a7421 11 = .ok (.invokevirtual 40, 3) := fdf dAb_245.2.1
theorem dJ5_inflateIfNeededFor_a7421_14 : decode cJ5_inflateIfNeededFor_a7421 14 = .ok (.if_icmp .eq 7, 3) := fdf dAb_245.2.2.1
theorem dJ5_inflateIfNeededFor_a7421_17 : decode cJ5_inflateIfNeededFor_a7421 17 = .ok (.aload_n 0, 1) := fdf dAb_245.2.2.2.1
theorem dJ5_inflateIfNeededFor_a7421_21 : decode cJ5_inflateIfNeededFor_a7421 21 = .ok (.return_, 1) := fdf dAb_245.2.2.2.2.1
theorem dJ5_putStringAt_47b60_0 : decode cJ5_putStringAt_47b60 0 = .ok (.aload_n 0, 1) := fdf dAb_245.2.2.2.2.2.1
theorem dJ5_putStringAt_47b60_1 : decode cJ5_putStringAt_47b60 1 = .ok (.aload_n 2, 1) := fdf dAb_245.2.2.2.2.2.2.1
theorem dJ5_putStringAt_47b60_2 : decode cJ5_putStringAt_47b60 2 = .ok (.invokevirtual 397, 3) := fdf dAb_245.2.2.2.2.2.2.2.1
theorem dJ5_putStringAt_47b60_5 : decode cJ5_putStringAt_47b60 5 = .ok (.aload_n 2, 1) := fdf dAb_245.2.2.2.2.2.2.2.2.1
theorem dJ5_putStringAt_47b60_6 : decode cJ5_putStringAt_47b60 6 = .ok (.aload_n 0, 1) := fdf dAb_245.2.2.2.2.2.2.2.2.2.1
theorem dJ5_putStringAt_47b60_7 : decode cJ5_putStringAt_47b60 7 = .ok (.getfield 15, 3) := fdf dAb_245.2.2.2.2.2.2.2.2.2.2.1
theorem dJ5_putStringAt_47b60_10 : decode cJ5_putStringAt_47b60 10 = .ok (.iload_n 1, 1) := fdf dAb_245.2.2.2.2.2.2.2.2.2.2.2.1
theorem dJ5_putStringAt_47b60_11 : decode cJ5_putStringAt_47b60 11 = .ok (.aload_n 0, 1) := fdf dAb_245.2.2.2.2.2.2.2.2.2.2.2.2.1
theorem dJ5_putStringAt_47b60_12 : decode cJ5_putStringAt_47b60 12 = .ok (.getfield 22, 3) := fdf dAb_245.2.2.2.2.2.2.2.2.2.2.2.2.2.1
theorem dJ5_putStringAt_47b60_15 : decode cJ5_putStringAt_47b60 15 = .ok (.invokevirtual 399, 3) := fdf dAb_245.2.2.2.2.2.2.2.2.2.2.2.2.2.2.1
theorem dJ5_putStringAt_47b60_18 : decode cJ5_putStringAt_47b60 18 = .ok (.return_, 1) := fdf dAb_245.2.2.2.2.2.2.2.2.2.2.2.2.2.2.2
theorem dAb_246 : fdq cJ6_getChars_ba4f3 0 (.iload_n 1) 1 = true ∧ fdq cJ6_getChars_ba4f3 1 (.istore 5) 2 = true ∧ fdq cJ6_getChars_ba4f3 3 (.iload_n 0) 1 = true ∧ fdq cJ6_getChars_ba4f3 4 (.ifCond .ge 7) 3 = true ∧ fdq cJ6_getChars_ba4f3 7 (.iconst 1) 1 = true ∧ fdq cJ6_getChars_ba4f3 8 (.goto 4) 3 = true ∧ fdq cJ6_getChars_ba4f3 11 (.iconst 0) 1 = true ∧ fdq cJ6_getChars_ba4f3 12 (.istore 6) 2 = true ∧ fdq cJ6_getChars_ba4f3 14 (.iload 6) 2 = true ∧ fdq cJ6_getChars_ba4f3 16 (.ifCond .ne 6) 3 = true ∧ fdq cJ6_getChars_ba4f3 19 (.iload_n 0) 1 = true ∧ fdq cJ6_getChars_ba4f3 20 (.ineg) 1 = true ∧ fdq cJ6_getChars_ba4f3 21 (.istore_n 0) 1 = true ∧ fdq cJ6_getChars_ba4f3 22 (.iload_n 0) 1 = true ∧ fdq cJ6_getChars_ba4f3 23 (.bipush (-100)) 2 = true ∧ fdq cJ6_getChars_ba4f3 25 (.if_icmp .gt 47) 3 = true := by decide +kernel
theorem dJ6_getChars_ba4f3_0 : decode cJ6_getChars_ba4f3 0 = .ok (.iload_n 1, 1) := fdf dAb_246.1
theorem dJ6_getChars_ba4f3_1 : decode cJ6_getChars_ba4f3 1 = .ok (.istore 5, 2) := fdf dAb_246.2.1
theorem dJ6_getChars_ba4f3_3 : decode cJ6_getChars_ba4f3 3 = .ok (.iload_n 0, 1) := fdf dAb_246.2.2.1
theorem dJ6_getChars_ba4f3_4 : decode cJ6_getChars_ba4f3 4 = .ok (.ifCond .ge 7, 3) := fdf dAb_246.2.2.2.1
theorem dJ6_getChars_ba4f3_7 : decode cJ6_getChars_ba4f3 7 = .ok (.iconst 1, 1) := fdf dAb_246.2.2.2.2.1
theorem dJ6_getChars_ba4f3_8 : decode cJ6_getChars_ba4f3 8 = .ok (.goto 4, 3) := fdf dAb_246.2.2.2.2.2.1
theorem dJ6_getChars_ba4f3_11 : decode cJ6_getChars_ba4f3 11 = .ok (.iconst 0, 1) := fdf dAb_246.2.2.2.2.2.2.1
theorem dJ6_getChars_ba4f3_12 : decode cJ6_getChars_ba4f3 12 = .ok (.istore 6, 2) := fdf dAb_246.2.2.2.2.2.2.2.1
theorem dJ6_getChars_ba4f3_14 : decode cJ6_getChars_ba4f3 14 = .ok (.iload 6, 2) := fdf dAb_246.2.2.2.2.2.2.2.2.1
theorem dJ6_getChars_ba4f3_16 : decode cJ6_getChars_ba4f3 16 = .ok (.ifCond .ne 6, 3) := fdf dAb_246.2.2.2.2.2.2.2.2.2.1
theorem dJ6_getChars_ba4f3_19 : decode cJ6_getChars_ba4f3 19 = .ok (.iload_n 0, 1) := fdf dAb_246.2.2.2.2.2.2.2.2.2.2.1
theorem dJ6_getChars_ba4f3_20 : decode cJ6_getChars_ba4f3 20 = .ok (.ineg, 1) := fdf dAb_246.2.2.2.2.2.2.2.2.2.2.2.1
theorem dJ6_getChars_ba4f3_21 : decode cJ6_getChars_ba4f3 21 = .ok (.istore_n 0, 1) := fdf dAb_246.2.2.2.2.2.2.2.2.2.2.2.2.1
theorem dJ6_getChars_ba4f3_22 : decode cJ6_getChars_ba4f3 22 = .ok (.iload_n 0, 1) := fdf dAb_246.2.2.2.2.2.2.2.2.2.2.2.2.2.1
theorem dJ6_getChars_ba4f3_23 : decode cJ6_getChars_ba4f3 23 = .ok (.bipush (-100), 2) := fdf dAb_246.2.2.2.2.2.2.2.2.2.2.2.2.2.2.1
theorem dJ6_getChars_ba4f3_25 : decode cJ6_getChars_ba4f3 25 = .ok (.if_icmp .gt 47, 3) := fdf dAb_246.2.2.2.2.2.2.2.2.2.2.2.2.2.2.2
theorem dAb_247 : fdq cJ6_getChars_ba4f3 28 (.iload_n 0) 1 = true ∧ fdq cJ6_getChars_ba4f3 29 (.bipush 100) 2 = true ∧ fdq cJ6_getChars_ba4f3 31 (.idiv) 1 = true ∧ fdq cJ6_getChars_ba4f3 32 (.istore_n 3) 1 = true ∧ fdq cJ6_getChars_ba4f3 33 (.iload_n 3) 1 = true ∧ fdq cJ6_getChars_ba4f3 34 (.bipush 100) 2 = true ∧ fdq cJ6_getChars_ba4f3 36 (.imul) 1 = true ∧ fdq cJ6_getChars_ba4f3 37 (.iload_n 0) 1 = true ∧ fdq cJ6_getChars_ba4f3 38 (.isub) 1 = true ∧ fdq cJ6_getChars_ba4f3 39 (.istore 4) 2 = true ∧ fdq cJ6_getChars_ba4f3 41 (.iload_n 3) 1 = true ∧ fdq cJ6_getChars_ba4f3 42 (.istore_n 0) 1 = true ∧ fdq cJ6_getChars_ba4f3 43 (.aload_n 2) 1 = true ∧ fdq cJ6_getChars_ba4f3 44 (.iinc 5 (-1)) 3 = true ∧ fdq cJ6_getChars_ba4f3 47 (.iload 5) 2 = true ∧ fdq cJ6_getChars_ba4f3 49 (.getstatic 83) 3 = true := by decide +kernel
theorem dJ6_getChars_ba4f3_28 : decode cJ6_getChars_ba4f3 28 = .ok (.iload_n 0, 1) := fdf dAb_247.1
theorem dJ6_getChars_ba4f3_29 : decode cJ6_getChars_ba4f3 29 = .ok (.bipush 100, 2) := fdf dAb_247.2.1
theorem dJ6_getChars_ba4f3_31 : decode cJ6_getChars_ba4f3 31 = .ok (.idiv, 1) := fdf dAb_247.2.2.1
theorem dJ6_getChars_ba4f3_32 : decode cJ6_getChars_ba4f3 32 = .ok (.istore_n 3, 1) := fdf dAb_247.2.2.2.1
theorem dJ6_getChars_ba4f3_33 : decode cJ6_getChars_ba4f3 33 = .ok (.iload_n 3, 1) := fdf dAb_247.2.2.2.2.1
theorem dJ6_getChars_ba4f3_34 : decode cJ6_getChars_ba4f3 34 = .ok (.bipush 100, 2) := fdf dAb_247.2.2.2.2.2.1
theorem dJ6_getChars_ba4f3_36 : decode cJ6_getChars_ba4f3 36 = .ok (.imul, 1) := fdf dAb_247.2.2.2.2.2.2.1
theorem dJ6_getChars_ba4f3_37 : decode cJ6_getChars_ba4f3 37 = .ok (.iload_n 0, 1) := fdf dAb_247.2.2.2.2.2.2.2.1
theorem dJ6_getChars_ba4f3_38 : decode cJ6_getChars_ba4f3 38 = .ok (.isub, 1) := fdf dAb_247.2.2.2.2.2.2.2.2.1
theorem dJ6_getChars_ba4f3_39 : decode cJ6_getChars_ba4f3 39 = .ok (.istore 4, 2) := fdf dAb_247.2.2.2.2.2.2.2.2.2.1
theorem dJ6_getChars_ba4f3_41 : decode cJ6_getChars_ba4f3 41 = .ok (.iload_n 3, 1) := fdf dAb_247.2.2.2.2.2.2.2.2.2.2.1
theorem dJ6_getChars_ba4f3_42 : decode cJ6_getChars_ba4f3 42 = .ok (.istore_n 0, 1) := fdf dAb_247.2.2.2.2.2.2.2.2.2.2.2.1
theorem dJ6_getChars_ba4f3_43 : decode cJ6_getChars_ba4f3 43 = .ok (.aload_n 2, 1) := fdf dAb_247.2.2.2.2.2.2.2.2.2.2.2.2.1
theorem dJ6_getChars_ba4f3_44 : decode cJ6_getChars_ba4f3 44 = .ok (.iinc 5 (-1), 3) := fdf dAb_247.2.2.2.2.2.2.2.2.2.2.2.2.2.1
theorem dJ6_getChars_ba4f3_47 : decode cJ6_getChars_ba4f3 47 = .ok (.iload 5, 2) := fdf dAb_247.2.2.2.2.2.2.2.2.2.2.2.2.2.2.1
theorem dJ6_getChars_ba4f3_49 : decode cJ6_getChars_ba4f3 49 = .ok (.getstatic 83, 3) := fdf dAb_247.2.2.2.2.2.2.2.2.2.2.2.2.2.2.2
theorem dAb_248 : fdq cJ6_getChars_ba4f3 52 (.iload 4) 2 = true ∧ fdq cJ6_getChars_ba4f3 54 (.baload) 1 = true ∧ fdq cJ6_getChars_ba4f3 55 (.bastore) 1 = true ∧ fdq cJ6_getChars_ba4f3 56 (.aload_n 2) 1 = true ∧ fdq cJ6_getChars_ba4f3 57 (.iinc 5 (-1)) 3 = true ∧ fdq cJ6_getChars_ba4f3 60 (.iload 5) 2 = true ∧ fdq cJ6_getChars_ba4f3 62 (.getstatic 87) 3 = true ∧ fdq cJ6_getChars_ba4f3 65 (.iload 4) 2 = true ∧ fdq cJ6_getChars_ba4f3 67 (.baload) 1 = true ∧ fdq cJ6_getChars_ba4f3 68 (.bastore) 1 = true ∧ fdq cJ6_getChars_ba4f3 69 (.goto (-47)) 3 = true ∧ fdq cJ6_getChars_ba4f3 72 (.aload_n 2) 1 = true ∧ fdq cJ6_getChars_ba4f3 73 (.iinc 5 (-1)) 3 = true ∧ fdq cJ6_getChars_ba4f3 76 (.iload 5) 2 = true ∧ fdq cJ6_getChars_ba4f3 78 (.getstatic 83) 3 = true ∧ fdq cJ6_getChars_ba4f3 81 (.iload_n 0) 1 = true := by decide +kernel
theorem dJ6_getChars_ba4f3_52 : decode cJ6_getChars_ba4f3 52 = .ok (.iload 4, 2) := fdf dAb_248.1
theorem dJ6_getChars_ba4f3_54 : decode cJ6_getChars_ba4f3 54 = .ok (.baload, 1) := fdf dAb_248.2.1
theorem dJ6_getChars_ba4f3_55 : decode cJ6_getChars_ba4f3 55 = .ok (.bastore, 1) := fdf dAb_248.2.2.1
theorem dJ6_getChars_ba4f3_56 : decode cJ6_getChars_ba4f3 56 = .ok (.aload_n 2, 1) := fdf dAb_248.2.2.2.1
theorem dJ6_getChars_ba4f3_57 : decode cJ6_getChars_ba4f3 57 = .ok (.iinc 5 (-1), 3) := fdf dAb_248.2.2.2.2.1
theorem dJ6_getChars_ba4f3_60 : decode cJ6_getChars_ba4f3 60 = .ok (.iload 5, 2) := fdf dAb_248.2.2.2.2.2.1
theorem dJ6_getChars_ba4f3_62 : decode cJ6_getChars_ba4f3 62 = .ok (.getstatic 87, 3) := fdf dAb_248.2.2.2.2.2.2.1
theorem dJ6_getChars_ba4f3_65 : decode cJ6_getChars_ba4f3 65 = .ok (.iload 4, 2) := fdf dAb_248.2.2.2.2.2.2.2.1
theorem dJ6_getChars_ba4f3_67 : decode cJ6_getChars_ba4f3 67 = .ok (.baload, 1) := fdf dAb_248.2.2.2.2.2.2.2.2.1
theorem dJ6_getChars_ba4f3_68 : decode cJ6_getChars_ba4f3 68 = .ok (.bastore, 1) := fdf dAb_248.2.2.2.2.2.2.2.2.2.1
theorem dJ6_getChars_ba4f3_69 : decode cJ6_getChars_ba4f3 69 = .ok (.goto (-47), 3) := fdf dAb_248.2.2.2.2.2.2.2.2.2.2.1
theorem dJ6_getChars_ba4f3_72 : decode cJ6_getChars_ba4f3 72 = .ok (.aload_n 2, 1) := fdf dAb_248.2.2.2.2.2.2.2.2.2.2.2.1
theorem dJ6_getChars_ba4f3_73 : decode cJ6_getChars_ba4f3 73 = .ok (.iinc 5 (-1), 3) := fdf dAb_248.2.2.2.2.2.2.2.2.2.2.2.2.1
theorem dJ6_getChars_ba4f3_76 : decode cJ6_getChars_ba4f3 76 = .ok (.iload 5, 2) := fdf dAb_248.2.2.2.2.2.2.2.2.2.2.2.2.2.1
theorem dJ6_getChars_ba4f3_78 : decode cJ6_getChars_ba4f3 78 = .ok (.getstatic 83, 3) := fdf dAb_248.2.2.2.2.2.2.2.2.2.2.2.2.2.2.1
theorem dJ6_getChars_ba4f3_81 : decode cJ6_getChars_ba4f3 81 = .ok (.iload_n 0, 1) := fdf dAb_248.2.2.2.2.2.2.2.2.2.2.2.2.2.2.2
theorem dAb_249 : fdq cJ6_getChars_ba4f3 82 (.ineg) 1 = true ∧ fdq cJ6_getChars_ba4f3 83 (.baload) 1 = true ∧ fdq cJ6_getChars_ba4f3 84 (.bastore) 1 = true ∧ fdq cJ6_getChars_ba4f3 85 (.iload_n 0) 1 = true ∧ fdq cJ6_getChars_ba4f3 86 (.bipush (-9)) 2 = true ∧ fdq cJ6_getChars_ba4f3 88 (.if_icmp .ge 16) 3 = true ∧ fdq cJ6_getChars_ba4f3 91 (.aload_n 2) 1 = true ∧ fdq cJ6_getChars_ba4f3 92 (.iinc 5 (-1)) 3 = true ∧ fdq cJ6_getChars_ba4f3 95 (.iload 5) 2 = true ∧ fdq cJ6_getChars_ba4f3 97 (.getstatic 87) 3 = true ∧ fdq cJ6_getChars_ba4f3 100 (.iload_n 0) 1 = true ∧ fdq cJ6_getChars_ba4f3 101 (.ineg) 1 = true ∧ fdq cJ6_getChars_ba4f3 102 (.baload) 1 = true ∧ fdq cJ6_getChars_ba4f3 103 (.bastore) 1 = true ∧ fdq cJ6_getChars_ba4f3 104 (.iload 6) 2 = true ∧ fdq cJ6_getChars_ba4f3 106 (.ifCond .eq 12) 3 = true := by decide +kernel
theorem dJ6_getChars_ba4f3_82 : decode cJ6_getChars_ba4f3 82 = .ok (.ineg, 1) := fdf dAb_249.1
theorem dJ6_getChars_ba4f3_83 : decode cJ6_getChars_ba4f3 83 = .ok (.baload, 1) := fdf dAb_249.2.1
theorem dJ6_getChars_ba4f3_84 : decode cJ6_getChars_ba4f3 84 = .ok (.bastore, 1) := fdf dAb_249.2.2.1
theorem dJ6_getChars_ba4f3_85 : decode cJ6_getChars_ba4f3 85 = .ok (.iload_n 0, 1) := fdf dAb_249.2.2.2.1
theorem dJ6_getChars_ba4f3_86 : decode cJ6_getChars_ba4f3 86 = .ok (.bipush (-9), 2) := fdf dAb_249.2.2.2.2.1
theorem dJ6_getChars_ba4f3_88 : decode cJ6_getChars_ba4f3 88 = .ok (.if_icmp .ge 16, 3) := fdf dAb_249.2.2.2.2.2.1
theorem dJ6_getChars_ba4f3_91 : decode cJ6_getChars_ba4f3 91 = .ok (.aload_n 2, 1) := fdf dAb_249.2.2.2.2.2.2.1
theorem dJ6_getChars_ba4f3_92 : decode cJ6_getChars_ba4f3 92 = .ok (.iinc 5 (-1), 3) := fdf dAb_249.2.2.2.2.2.2.2.1
theorem dJ6_getChars_ba4f3_95 : decode cJ6_getChars_ba4f3 95 = .ok (.iload 5, 2) := fdf dAb_249.2.2.2.2.2.2.2.2.1
theorem dJ6_getChars_ba4f3_97 : decode cJ6_getChars_ba4f3 97 = .ok (.getstatic 87, 3) := fdf dAb_249.2.2.2.2.2.2.2.2.2.1
theorem dJ6_getChars_ba4f3_100 : decode cJ6_getChars_ba4f3 100 = .ok (.iload_n 0, 1) := fdf dAb_249.2.2.2.2.2.2.2.2.2.2.1
theorem dJ6_getChars_ba4f3_101 : decode cJ6_getChars_ba4f3 101 = .ok (.ineg, 1) := fdf dAb_249.2.2.2.2.2.2.2.2.2.2.2.1
theorem dJ6_getChars_ba4f3_102 : decode cJ6_getChars_ba4f3 102 = .ok (.baload, 1) := fdf dAb_249.2.2.2.2.2.2.2.2.2.2.2.2.1
theorem dJ6_getChars_ba4f3_103 : decode cJ6_getChars_ba4f3 103 = .ok (.bastore, 1) := fdf dAb_249.2.2.2.2.2.2.2.2.2.2.2.2.2.1
theorem dJ6_getChars_ba4f3_104 : decode cJ6_getChars_ba4f3 104 = .ok (.iload 6, 2) := fdf dAb_249.2.2.2.2.2.2.2.2.2.2.2.2.2.2.1
theorem dJ6_getChars_ba4f3_106 : decode cJ6_getChars_ba4f3 106 = .ok (.ifCond .eq 12, 3) := fdf dAb_249.2.2.2.2.2.2.2.2.2.2.2.2.2.2.2
theorem dAb_250 : fdq cJ6_getChars_ba4f3 109 (.aload_n 2) 1 = true ∧ fdq cJ6_getChars_ba4f3 110 (.iinc 5 (-1)) 3 = true ∧ fdq cJ6_getChars_ba4f3 113 (.iload 5) 2 = true ∧ fdq cJ6_getChars_ba4f3 115 (.bipush 45) 2 = true ∧ fdq cJ6_getChars_ba4f3 117 (.bastore) 1 = true ∧ fdq cJ6_getChars_ba4f3 118 (.iload 5) 2 = true ∧ fdq cJ6_getChars_ba4f3 120 (.ireturn) 1 = true ∧ fdq cJ6_stringSize_0f7a4 0 (.iconst 1) 1 = true ∧ fdq cJ6_stringSize_0f7a4 1 (.istore_n 1) 1 = true ∧ fdq cJ6_stringSize_0f7a4 2 (.iload_n 0) 1 = true ∧ fdq cJ6_stringSize_0f7a4 3 (.ifCond .lt 8) 3 = true ∧ fdq cJ6_stringSize_0f7a4 6 (.iconst 0) 1 = true ∧ fdq cJ6_stringSize_0f7a4 7 (.istore_n 1) 1 = true ∧ fdq cJ6_stringSize_0f7a4 8 (.iload_n 0) 1 = true ∧ fdq cJ6_stringSize_0f7a4 9 (.ineg) 1 = true ∧ fdq cJ6_stringSize_0f7a4 10 (.istore_n 0) 1 = true := by decide +kernel
theorem dJ6_getChars_ba4f3_109 : decode cJ6_getChars_ba4f3 109 = .ok (.aload_n 2, 1) := fdf dAb_250.1
theorem dJ6_getChars_ba4f3_110 : decode cJ6_getChars_ba4f3 110 = .ok (.iinc 5 (-1), 3) := fdf dAb_250.2.1
theorem dJ6_getChars_ba4f3_113 : decode cJ6_getChars_ba4f3 113 = .ok (.iload 5, 2) := fdf dAb_250.2.2.1
theorem dJ6_getChars_ba4f3_115 : decode cJ6_getChars_ba4f3 115 = .ok (.bipush 45, 2) := fdf dAb_250.2.2.2.1
theorem dJ6_getChars_ba4f3_117 : decode cJ6_getChars_ba4f3 117 = .ok (.bastore, 1) := fdf dAb_250.2.2.2.2.1
theorem dJ6_getChars_ba4f3_118 : decode cJ6_getChars_ba4f3 118 = .ok (.iload 5, 2) := fdf dAb_250.2.2.2.2.2.1
theorem dJ6_getChars_ba4f3_120 : decode cJ6_getChars_ba4f3 120 = .ok (.ireturn, 1) := fdf dAb_250.2.2.2.2.2.2.1
theorem dJ6_stringSize_0f7a4_0 : decode cJ6_stringSize_0f7a4 0 = .ok (.iconst 1, 1) := fdf dAb_250.2.2.2.2.2.2.2.1
theorem dJ6_stringSize_0f7a4_1 : decode cJ6_stringSize_0f7a4 1 = .ok (.istore_n 1, 1) := fdf dAb_250.2.2.2.2.2.2.2.2.1
theorem dJ6_stringSize_0f7a4_2 : decode cJ6_stringSize_0f7a4 2 = .ok (.iload_n 0, 1) := fdf dAb_250.2.2.2.2.2.2.2.2.2.1
theorem dJ6_stringSize_0f7a4_3 : decode cJ6_stringSize_0f7a4 3 = .ok (.ifCond .lt 8, 3) := fdf dAb_250.2.2.2.2.2.2.2.2.2.2.1
theorem dJ6_stringSize_0f7a4_6 : decode cJ6_stringSize_0f7a4 6 = .ok (.iconst 0, 1) := fdf dAb_250.2.2.2.2.2.2.2.2.2.2.2.1
theorem dJ6_stringSize_0f7a4_7 : decode cJ6_stringSize_0f7a4 7 = .ok (.istore_n 1, 1) := fdf dAb_250.2.2.2.2.2.2.2.2.2.2.2.2.1
theorem dJ6_stringSize_0f7a4_8 : decode cJ6_stringSize_0f7a4 8 = .ok (.iload_n 0, 1) := fdf dAb_250.2.2.2.2.2.2.2.2.2.2.2.2.2.1
theorem dJ6_stringSize_0f7a4_9 : decode cJ6_stringSize_0f7a4 9 = .ok (.ineg, 1) := fdf dAb_250.2.2.2.2.2.2.2.2.2.2.2.2.2.2.1
theorem dJ6_stringSize_0f7a4_10 : decode cJ6_stringSize_0f7a4 10 = .ok (.istore_n 0, 1) := fdf dAb_250.2.2.2.2.2.2.2.2.2.2.2.2.2.2.2
theorem dAb_251 : fdq cJ6_stringSize_0f7a4 11 (.bipush (-10)) 2 = true ∧ fdq cJ6_stringSize_0f7a4 13 (.istore_n 2) 1 = true ∧ fdq cJ6_stringSize_0f7a4 14 (.iconst 1) 1 = true ∧ fdq cJ6_stringSize_0f7a4 15 (.istore_n 3) 1 = true ∧ fdq cJ6_stringSize_0f7a4 16 (.iload_n 3) 1 = true ∧ fdq cJ6_stringSize_0f7a4 17 (.bipush 10) 2 = true ∧ fdq cJ6_stringSize_0f7a4 19 (.if_icmp .ge 23) 3 = true ∧ fdq cJ6_stringSize_0f7a4 22 (.iload_n 0) 1 = true ∧ fdq cJ6_stringSize_0f7a4 23 (.iload_n 2) 1 = true ∧ fdq cJ6_stringSize_0f7a4 24 (.if_icmp .le 7) 3 = true ∧ fdq cJ6_stringSize_0f7a4 27 (.iload_n 3) 1 = true ∧ fdq cJ6_stringSize_0f7a4 28 (.iload_n 1) 1 = true ∧ fdq cJ6_stringSize_0f7a4 29 (.iadd) 1 = true ∧ fdq cJ6_stringSize_0f7a4 30 (.ireturn) 1 = true ∧ fdq cJ6_stringSize_0f7a4 31 (.bipush 10) 2 = true ∧ fdq cJ6_stringSize_0f7a4 33 (.iload_n 2) 1 = true := by decide +kernel
theorem dJ6_stringSize_0f7a4_11 : decode cJ6_stringSize_0f7a4 11 = .ok (.bipush (-10), 2) := fdf dAb_251.1
theorem dJ6_stringSize_0f7a4_13 : decode cJ6_stringSize_0f7a4 13 = .ok (.istore_n 2, 1) := fdf dAb_251.2.1
theorem dJ6_stringSize_0f7a4_14 : decode cJ6_stringSize_0f7a4 14 = .ok (.iconst 1, 1) := fdf dAb_251.2.2.1
theorem dJ6_stringSize_0f7a4_15 : decode cJ6_stringSize_0f7a4 15 = .ok (.istore_n 3, 1) := fdf dAb_251.2.2.2.1
theorem dJ6_stringSize_0f7a4_16 : decode cJ6_stringSize_0f7a4 16 = .ok (.iload_n 3, 1) := fdf dAb_251.2.2.2.2.1
theorem dJ6_stringSize_0f7a4_17 : decode cJ6_stringSize_0f7a4 17 = .ok (.bipush 10, 2) := fdf dAb_251.2.2.2.2.2.1
theorem dJ6_stringSize_0f7a4_19 : decode cJ6_stringSize_0f7a4 19 = .ok (.if_icmp .ge 23, 3) := fdf dAb_251.2.2.2.2.2.2.1
theorem dJ6_stringSize_0f7a4_22 : decode cJ6_stringSize_0f7a4 22 = .ok (.iload_n 0, 1) := fdf dAb_251.2.2.2.2.2.2.2.1
theorem dJ6_stringSize_0f7a4_23 : decode cJ6_stringSize_0f7a4 23 = .ok (.iload_n 2, 1) := fdf dAb_251.2.2.2.2.2.2.2.2.1
theorem dJ6_stringSize_0f7a4_24 : decode cJ6_stringSize_0f7a4 24 = .ok (.if_icmp .le 7, 3) := fdf dAb_251.2.2.2.2.2.2.2.2.2.1
theorem dJ6_stringSize_0f7a4_27 : decode cJ6_stringSize_0f7a4 27 = .ok (.iload_n 3, 1) := fdf dAb_251.2.2.2.2.2.2.2.2.2.2.1
theorem dJ6_stringSize_0f7a4_28 : decode cJ6_stringSize_0f7a4 28 = .ok (.iload_n 1, 1) := fdf dAb_251.2.2.2.2.2.2.2.2.2.2.2.1
theorem dJ6_stringSize_0f7a4_29 : decode cJ6_stringSize_0f7a4 29 = .ok (.iadd, 1) := fdf dAb_251.2.2.2.2.2.2.2.2.2.2.2.2.1
theorem dJ6_stringSize_0f7a4_30 : decode cJ6_stringSize_0f7a4 30 = .ok (.ireturn, 1) := fdf dAb_251.2.2.2.2.2.2.2.2.2.2.2.2.2.1
theorem dJ6_stringSize_0f7a4_31 : decode cJ6_stringSize_0f7a4 31 = .ok (.bipush 10, 2) := fdf dAb_251.2.2.2.2.2.2.2.2.2.2.2.2.2.2.1
theorem dJ6_stringSize_0f7a4_33 : decode cJ6_stringSize_0f7a4 33 = .ok (.iload_n 2, 1) := fdf dAb_251.2.2.2.2.2.2.2.2.2.2.2.2.2.2.2
theorem dAb_252 : fdq cJ6_stringSize_0f7a4 34 (.imul) 1 = true ∧ fdq cJ6_stringSize_0f7a4 35 (.istore_n 2) 1 = true ∧ fdq cJ6_stringSize_0f7a4 36 (.iinc 3 1) 3 = true ∧ fdq cJ6_stringSize_0f7a4 39 (.goto (-23)) 3 = true ∧ fdq cJ6_stringSize_0f7a4 42 (.bipush 10) 2 = true ∧ fdq cJ6_stringSize_0f7a4 44 (.iload_n 1) 1 = true ∧ fdq cJ6_stringSize_0f7a4 45 (.iadd) 1 = true ∧ fdq cJ6_stringSize_0f7a4 46 (.ireturn) 1 = true ∧ fdq cJ6_compare_7cf53 0 (.iload_n 0) 1 = true ∧ fdq cJ6_compare_7cf53 1 (.iload_n 1) 1 = true ∧ fdq cJ6_compare_7cf53 2 (.if_icmp .ge 7) 3 = true ∧ fdq cJ6_compare_7cf53 5 (.iconst (-1)) 1 = true ∧ fdq cJ6_compare_7cf53 6 (.goto 13) 3 = true ∧ fdq cJ6_compare_7cf53 9 (.iload_n 0) 1 = true ∧ fdq cJ6_compare_7cf53 10 (.iload_n 1) 1 = true ∧ fdq cJ6_compare_7cf53 11 (.if_icmp .ne 7) 3 = true := by decide +kernel
theorem dJ6_stringSize_0f7a4_34 : decode cJ6_stringSize_0f7a4 34 = .ok (.imul, 1) := fdf dAb_252.1
theorem dJ6_stringSize_0f7a4_35 : decode cJ6_stringSize_0f7a4 35 = .ok (.istore_n 2, 1) := fdf dAb_252.2.1
theorem dJ6_stringSize_0f7a4_36 : decode cJ6_stringSize_0f7a4 36 = .ok (.iinc 3 1, 3) := fdf dAb_252.2.2.1
theorem dJ6_stringSize_0f7a4_39 : decode cJ6_stringSize_0f7a4 39 = .ok (.goto (-23), 3) := fdf dAb_252.2.2.2.1
theorem dJ6_stringSize_0f7a4_42 : decode cJ6_stringSize_0f7a4 42 = .ok (.bipush 10, 2) := fdf dAb_252.2.2.2.2.1
theorem dJ6_stringSize_0f7a4_44 : decode cJ6_stringSize_0f7a4 44 = .ok (.iload_n 1, 1) := fdf dAb_252.2.2.2.2.2.1
theorem dJ6_stringSize_0f7a4_45 : decode cJ6_stringSize_0f7a4 45 = .ok (.iadd, 1) := fdf dAb_252.2.2.2.2.2.2.1
theorem dJ6_stringSize_0f7a4_46 : decode cJ6_stringSize_0f7a4 46 = .ok (.ireturn, 1) := fdf dAb_252.2.2.2.2.2.2.2.1
theorem dJ6_compare_7cf53_0 : decode cJ6_compare_7cf53 0 = .ok (.iload_n 0, 1) := fdf dAb_252.2.2.2.2.2.2.2.2.1
theorem dJ6_compare_7cf53_1 : decode cJ6_compare_7cf53 1 = .ok (.iload_n 1, 1) := fdf dAb_252.2.2.2.2.2.2.2.2.2.1
theorem dJ6_compare_7cf53_2 : decode cJ6_compare_7cf53 2 = .ok (.if_icmp .ge 7, 3) := fdf dAb_252.2.2.2.2.2.2.2.2.2.2.1
theorem dJ6_compare_7cf53_5 : decode cJ6_compare_7cf53 5 = .ok (.iconst (-1), 1) := fdf dAb_252.2.2.2.2.2.2.2.2.2.2.2.1
theorem dJ6_compare_7cf53_6 : decode cJ6_compare_7cf53 6 = .ok (.goto 13, 3) := fdf dAb_252.2.2.2.2.2.2.2.2.2.2.2.2.1
theorem dJ6_compare_7cf53_9 : decode cJ6_compare_7cf53 9 = .ok (.iload_n 0, 1) := fdf dAb_252.2.2.2.2.2.2.2.2.2.2.2.2.2.1
theorem dJ6_compare_7cf53_10 : decode cJ6_compare_7cf53 10 = .ok (.iload_n 1, 1) := fdf dAb_252.2.2.2.2.2.2.2.2.2.2.2.2.2.2.1
theorem dJ6_compare_7cf53_11 : decode cJ6_compare_7cf53 11 = .ok (.if_icmp .ne 7, 3) := fdf dAb_252.2.2.2.2.2.2.2.2.2.2.2.2.2.2.2
theorem dAb_253 : fdq cJ6_compare_7cf53 14 (.iconst 0) 1 = true ∧ fdq cJ6_compare_7cf53 15 (.goto 4) 3 = true ∧ fdq cJ6_compare_7cf53 18 (.iconst 1) 1 = true ∧ fdq cJ6_compare_7cf53 19 (.ireturn) 1 = true ∧ fdq cJ9_floorMod_7cf53 0 (.iload_n 0) 1 = true ∧ fdq cJ9_floorMod_7cf53 1 (.iload_n 1) 1 = true ∧ fdq cJ9_floorMod_7cf53 2 (.irem) 1 = true ∧ fdq cJ9_floorMod_7cf53 3 (.istore_n 2) 1 = true ∧ fdq cJ9_floorMod_7cf53 4 (.iload_n 0) 1 = true ∧ fdq cJ9_floorMod_7cf53 5 (.iload_n 1) 1 = true ∧ fdq cJ9_floorMod_7cf53 6 (.ixor) 1 = true ∧ fdq cJ9_floorMod_7cf53 7 (.ifCond .ge 11) 3 = true ∧ fdq cJ9_floorMod_7cf53 10 (.iload_n 2) 1 = true ∧ fdq cJ9_floorMod_7cf53 11 (.ifCond .eq 7) 3 = true ∧ fdq cJ9_floorMod_7cf53 14 (.iload_n 2) 1 = true ∧ fdq cJ9_floorMod_7cf53 15 (.iload_n 1) 1 = true := by decide +kernel
theorem dJ6_compare_7cf53_14 : decode cJ6_compare_7cf53 14 = .ok (.iconst 0, 1) := fdf dAb_253.1
theorem dJ6_compare_7cf53_15 : decode cJ6_compare_7cf53 15 = .ok (.goto 4, 3) := fdf dAb_253.2.1
theorem dJ6_compare_7cf53_18 : decode cJ6_compare_7cf53 18 = .ok (.iconst 1, 1) := fdf dAb_253.2.2.1
theorem dJ6_compare_7cf53_19 : decode cJ6_compare_7cf53 19 = .ok (.ireturn, 1) := fdf dAb_253.2.2.2.1
theorem dJ9_floorMod_7cf53_0 : decode cJ9_floorMod_7cf53 0 = .ok (.iload_n 0, 1) := fdf dAb_253.2.2.2.2.1
theorem dJ9_floorMod_7cf53_1 : decode cJ9_floorMod_7cf53 1 = .ok (.iload_n 1, 1) := fdf dAb_253.2.2.2.2.2.1
theorem dJ9_floorMod_7cf53_2 : decode cJ9_floorMod_7cf53 2 = .ok (.irem, 1) := fdf dAb_253.2.2.2.2.2.2.1
theorem dJ9_floorMod_7cf53_3 : decode cJ9_floorMod_7cf53 3 = .ok (.istore_n 2, 1) := fdf dAb_253.2.2.2.2.2.2.2.1
theorem dJ9_floorMod_7cf53_4 : decode cJ9_floorMod_7cf53 4 = .ok (.iload_n 0, 1) := fdf dAb_253.2.2.2.2.2.2.2.2.1
theorem dJ9_floorMod_7cf53_5 : decode cJ9_floorMod_7cf53 5 = .ok (.iload_n 1, 1) := fdf dAb_253.2.2.2.2.2.2.2.2.2.1
theorem dJ9_floorMod_7cf53_6 : decode cJ9_floorMod_7cf53 6 = .ok (.ixor, 1) := fdf dAb_253.2.2.2.2.2.2.2.2.2.2.1
theorem dJ9_floorMod_7cf53_7 : decode cJ9_floorMod_7cf53 7 = .ok (.ifCond .ge 11, 3) := fdf dAb_253.2.2.2.2.2.2.2.2.2.2.2.1
theorem dJ9_floorMod_7cf53_10 : decode cJ9_floorMod_7cf53 10 = .ok (.iload_n 2, 1) := fdf dAb_253.2.2.2.2.2.2.2.2.2.2.2.2.1
theorem dJ9_floorMod_7cf53_11 : decode cJ9_floorMod_7cf53 11 = .ok (.ifCond .eq 7, 3) := fdf dAb_253.2.2.2.2.2.2.2.2.2.2.2.2.2.1
theorem dJ9_floorMod_7cf53_14 : decode cJ9_floorMod_7cf53 14 = .ok (.iload_n 2, 1) := fdf dAb_253.2.2.2.2.2.2.2.2.2.2.2.2.2.2.1
theorem dJ9_floorMod_7cf53_15 : decode cJ9_floorMod_7cf53 15 = .ok (.iload_n 1, 1) := fdf dAb_253.2.2.2.2.2.2.2.2.2.2.2.2.2.2.2
theorem dAb_254 : fdq cJ9_floorMod_7cf53 16 (.iadd) 1 = true ∧ fdq cJ9_floorMod_7cf53 17 (.ireturn) 1 = true ∧ fdq cJ9_floorMod_7cf53 18 (.iload_n 2) 1 = true ∧ fdq cJ9_floorMod_7cf53 19 (.ireturn) 1 = true ∧ fdq cJ0_init_81219 0 (.aload_n 0) 1 = true ∧ fdq cJ0_init_81219 1 (.aload_n 1) 1 = true ∧ fdq cJ0_init_81219 2 (.aconst_null) 1 = true ∧ fdq cJ0_init_81219 3 (.invokespecial 489) 3 = true ∧ fdq cJ0_init_81219 6 (.return_) 1 = true ∧ fdq cJ0_length_8abf5 0 (.aload_n 0) 1 = true ∧ fdq cJ0_length_8abf5 1 (.getfield 9) 3 = true ∧ fdq cJ0_length_8abf5 4 (.arraylength) 1 = true ∧ fdq cJ0_length_8abf5 5 (.aload_n 0) 1 = true ∧ fdq cJ0_length_8abf5 6 (.invokevirtual 335) 3 = true ∧ fdq cJ0_length_8abf5 9 (.ishr) 1 = true ∧ fdq cJ0_length_8abf5 10 (.ireturn) 1 = true := by decide +kernel
theorem dJ9_floorMod_7cf53_16 : decode cJ9_floorMod_7cf53 16 = .ok (.iadd, 1) := fdf dAb_254.1
theorem dJ9_floorMod_7cf53_17 : decode cJ9_floorMod_7cf53 17 = .ok (.ireturn, 1) := fdf dAb_254.2.1
theorem dJ9_floorMod_7cf53_18 : decode cJ9_floorMod_7cf53 18 = .ok (.iload_n 2, 1) := fdf dAb_254.2.2.1
theorem dJ9_floorMod_7cf53_19 : decode cJ9_floorMod_7cf53 19 = .ok (.ireturn, 1) := fdf dAb_254.2.2.2.1
theorem dJ0_init_81219_0 : decode cJ0_init_81219 0 = .ok (.aload_n 0, 1) := fdf dAb_254.2.2.2.2.1
theorem dJ0_init_81219_1 : decode cJ0_init_81219 1 = .ok (.aload_n 1, 1) := fdf dAb_254.2.2.2.2.2.1
theorem dJ0_init_81219_2 : decode cJ0_init_81219 2 = .ok (.aconst_null, 1) := fdf dAb_254.2.2.2.2.2.2.1
theorem dJ0_init_81219_3 : decode cJ0_init_81219 3 = .ok (.invokespecial 489, 3) := fdf dAb_254.2.2.2.2.2.2.2.1
theorem dJ0_init_81219_6 : decode cJ0_init_81219 6 = .ok (.return_, 1) := fdf dAb_254.2.2.2.2.2.2.2.2.1
theorem dJ0_length_8abf5_0 : decode cJ0_length_8abf5 0 = .ok (.aload_n 0, 1) := fdf dAb_254.2.2.2.2.2.2.2.2.2.1
theorem dJ0_length_8abf5_1 : decode cJ0_length_8abf5 1 = .ok (.getfield 9, 3) := fdf dAb_254.2.2.2.2.2.2.2.2.2.2.1
theorem dJ0_length_8abf5_4 : decode cJ0_length_8abf5 4 = .ok (.arraylength, 1) := fdf dAb_254.2.2.2.2.2.2.2.2.2.2.2.1
theorem dJ0_length_8abf5_5 : decode cJ0_length_8abf5 5 = .ok (.aload_n 0, 1) := fdf dAb_254.2.2.2.2.2.2.2.2.2.2.2.2.1
theorem dJ0_length_8abf5_6 : decode cJ0_length_8abf5 6 = .ok (.invokevirtual 335, 3) := fdf dAb_254.2.2.2.2.2.2.2.2.2.2.2.2.2.1
theorem dJ0_length_8abf5_9 : decode cJ0_length_8abf5 9 = .ok (.ishr, 1) := fdf dAb_254.2.2.2.2.2.2.2.2.2.2.2.2.2.2.1
theorem dJ0_length_8abf5_10 : decode cJ0_length_8abf5 10 = .ok (.ireturn, 1) := fdf dAb_254.2.2.2.2.2.2.2.2.2.2.2.2.2.2.2
theorem dAb_255 : fdq cJ0_isEmpty_aae02 0 (.aload_n 0) 1 = true ∧ fdq cJ0_isEmpty_aae02 1 (.getfield 9) 3 = true ∧ fdq cJ0_isEmpty_aae02 4 (.arraylength) 1 = true ∧ fdq cJ0_isEmpty_aae02 5 (.ifCond .ne 7) 3 = true ∧ fdq cJ0_isEmpty_aae02 8 (.iconst 1) 1 = true ∧ fdq cJ0_isEmpty_aae02 9 (.goto 4) 3 = true ∧ fdq cJ0_isEmpty_aae02 12 (.iconst 0) 1 = true ∧ fdq cJ0_isEmpty_aae02 13 (.ireturn) 1 = true ∧ fdq cJ0_getBytes_840e7 0 (.aload_n 0) 1 = true ∧ fdq cJ0_getBytes_840e7 1 (.invokevirtual 335) 3 = true ∧ fdq cJ0_getBytes_840e7 4 (.iload_n 3) 1 = true ∧ fdq cJ0_getBytes_840e7 5 (.if_icmp .ne 23) 3 = true ∧ fdq cJ0_getBytes_840e7 8 (.aload_n 0) 1 = true ∧ fdq cJ0_getBytes_840e7 9 (.getfield 9) 3 = true ∧ fdq cJ0_getBytes_840e7 12 (.iconst 0) 1 = true ∧ fdq cJ0_getBytes_840e7 13 (.aload_n 1) 1 = true := by decide +kernel
theorem dJ0_isEmpty_aae02_0 : decode cJ0_isEmpty_aae02 0 = .ok (.aload_n 0, 1) := fdf dAb_255.1
theorem dJ0_isEmpty_aae02_1 : decode cJ0_isEmpty_aae02 1 = .ok (.getfield 9, 3) := fdf dAb_255.2.1
theorem dJ0_isEmpty_aae02_4 : decode cJ0_isEmpty_aae02 4 = .ok (.arraylength, 1) := fdf dAb_255.2.2.1
theorem dJ0_isEmpty_aae02_5 : decode cJ0_isEmpty_aae02 5 = .ok (.ifCond .ne 7, 3) := fdf dAb_255.2.2.2.1
theorem dJ0_isEmpty_aae02_8 : decode cJ0_isEmpty_aae02 8 = .ok (.iconst 1, 1) := fdf dAb_255.2.2.2.2.1
theorem dJ0_isEmpty_aae02_9 : decode cJ0_isEmpty_aae02 9 = .ok (.goto 4, 3) := fdf dAb_255.2.2.2.2.2.1
theorem dJ0_isEmpty_aae02_12 : decode cJ0_isEmpty_aae02 12 = .ok (.iconst 0, 1) := fdf dAb_255.2.2.2.2.2.2.1
theorem dJ0_isEmpty_aae02_13 : decode cJ0_isEmpty_aae02 13 = .ok (.ireturn, 1) := fdf dAb_255.2.2.2.2.2.2.2.1
theorem dJ0_getBytes_840e7_0 : decode cJ0_getBytes_840e7 0 = .ok (.aload_n 0, 1) := fdf dAb_255.2.2.2.2.2.2.2.2.1
theorem dJ0_getBytes_840e7_1 : decode cJ0_getBytes_840e7 1 = .ok (.invokevirtual 335, 3) := fdf dAb_255.2.2.2.2.2.2.2.2.2.1
theorem dJ0_getBytes_840e7_4 : decode cJ0_getBytes_840e7 4 = .ok (.iload_n 3, 1) := fdf dAb_255.2.2.2.2.2.2.2.2.2.2.1
theorem dJ0_getBytes_840e7_5 : decode cJ0_getBytes_840e7 5 = .ok (.if_icmp .ne 23, 3) := fdf dAb_255.2.2.2.2.2.2.2.2.2.2.2.1
theorem dJ0_getBytes_840e7_8 : decode cJ0_getBytes_840e7 8 = .ok (.aload_n 0, 1) := fdf dAb_255.2.2.2.2.2.2.2.2.2.2.2.2.1
theorem dJ0_getBytes_840e7_9 : decode cJ0_getBytes_840e7 9 = .ok (.getfield 9, 3) := fdf dAb_255.2.2.2.2.2.2.2.2.2.2.2.2.2.1
theorem dJ0_getBytes_840e7_12 : decode cJ0_getBytes_840e7 12 = .ok (.iconst 0, 1) := fdf dAb_255.2.2.2.2.2.2.2.2.2.2.2.2.2.2.1
theorem dJ0_getBytes_840e7_13 : decode cJ0_getBytes_840e7 13 = .ok (.aload_n 1, 1) := fdf dAb_255.2.2.2.2.2.2.2.2.2.2.2.2.2.2.2
theorem dAb_256 : fdq cJ0_getBytes_840e7 14 (.iload_n 2) 1 = true ∧ fdq cJ0_getBytes_840e7 15 (.iload_n 3) 1 = true ∧ fdq cJ0_getBytes_840e7 16 (.ishl) 1 = true ∧ fdq cJ0_getBytes_840e7 17 (.aload_n 0) 1 = true ∧ fdq cJ0_getBytes_840e7 18 (.getfield 9) 3 = true ∧ fdq cJ0_getBytes_840e7 21 (.arraylength) 1 = true ∧ fdq cJ0_getBytes_840e7 22 (.invokestatic 212) 3 = true ∧ fdq cJ0_getBytes_840e7 25 (.goto 18) 3 = true ∧ fdq cJ0_getBytes_840e7 28 (.aload_n 0) 1 = true ∧ fdq cJ0_getBytes_840e7 29 (.getfield 9) 3 = true ∧ fdq cJ0_getBytes_840e7 32 (.iconst 0) 1 = true ∧ fdq cJ0_getBytes_840e7 33 (.aload_n 1) 1 = true ∧ fdq cJ0_getBytes_840e7 34 (.iload_n 2) 1 = true ∧ fdq cJ0_getBytes_840e7 35 (.aload_n 0) 1 = true ∧ fdq cJ0_getBytes_840e7 36 (.getfield 9) 3 = true ∧ fdq cJ0_getBytes_840e7 39 (.arraylength) 1 = true := by decide +kernel
theorem dJ0_getBytes_840e7_14 : decode cJ0_getBytes_840e7 14 = .ok (.iload_n 2, 1) := fdf dAb_256.1
theorem dJ0_getBytes_840e7_15 : decode cJ0_getBytes_840e7 15 = .ok (.iload_n 3, 1) := fdf dAb_256.2.1
theorem dJ0_getBytes_840e7_16 : decode cJ0_getBytes_840e7 16 = .ok (.ishl, 1) := fdf dAb_256.2.2.1
theorem dJ0_getBytes_840e7_17 : decode cJ0_getBytes_840e7 17 = .ok (.aload_n 0, 1) := fdf dAb_256.2.2.2.1
theorem dJ0_getBytes_840e7_18 : decode cJ0_getBytes_840e7 18 = .ok (.getfield 9, 3) := fdf dAb_256.2.2.2.2.1
theorem dJ0_getBytes_840e7_21 : decode cJ0_getBytes_840e7 21 = .ok (.arraylength, 1) := fdf dAb_256.2.2.2.2.2.1
theorem dJ0_getBytes_840e7_22 : decode cJ0_getBytes_840e7 22 = .ok (.invokestatic 212, 3) := fdf dAb_256.2.2.2.2.2.2.1
theorem dJ0_getBytes_840e7_25 : decode cJ0_getBytes_840e7 25 = .ok (.goto 18, 3) := fdf dAb_256.2.2.2.2.2.2.2.1
theorem dJ0_getBytes_840e7_28 : decode cJ0_getBytes_840e7 28 = .ok (.aload_n 0, 1) := fdf dAb_256.2.2.2.2.2.2.2.2.1
theorem dJ0_getBytes_840e7_29 : decode cJ0_getBytes_840e7 29 = .ok (.getfield 9, 3) := fdf dAb_256.2.2.2.2.2.2.2.2.2.1
theorem dJ0_getBytes_840e7_32 : decode cJ0_getBytes_840e7 32 = .ok (.iconst 0, 1) := fdf dAb_256.2.2.2.2.2.2.2.2.2.2.1
theorem dJ0_getBytes_840e7_33 : decode cJ0_getBytes_840e7 33 = .ok (.aload_n 1, 1) := fdf dAb_256.2.2.2.2.2.2.2.2.2.2.2.1
theorem dJ0_getBytes_840e7_34 : decode cJ0_getBytes_840e7 34 = .ok (.iload_n 2, 1) := fdf dAb_256.2.2.2.2.2.2.2.2.2.2.2.2.1
theorem dJ0_getBytes_840e7_35 : decode cJ0_getBytes_840e7 35 = .ok (.aload_n 0, 1) := fdf dAb_256.2.2.2.2.2.2.2.2.2.2.2.2.2.1
theorem dJ0_getBytes_840e7_36 : decode cJ0_getBytes_840e7 36 = .ok (.getfield 9, 3) := fdf dAb_256.2.2.2.2.2.2.2.2.2.2.2.2.2.2.1
theorem dJ0_getBytes_840e7_39 : decode cJ0_getBytes_840e7 39 = .ok (.arraylength, 1) := fdf dAb_256.2.2.2.2.2.2.2.2.2.2.2.2.2.2.2
theorem dAb_257 : fdq cJ0_getBytes_840e7 43 (.return_) 1 = true ∧ fdq cJ0_init_db425 0 (.aload_n 0) 1 = true ∧ fdq cJ0_init_db425 1 (.invokespecial 1) 3 = true ∧ fdq cJ0_init_db425 4 (.aload_n 1) 1 = true ∧ fdq cJ0_init_db425 5 (.invokevirtual 552) 3 = true ∧ fdq cJ0_init_db425 8 (.astore_n 3) 1 = true ∧ fdq cJ0_init_db425 9 (.aload_n 1) 1 = true ∧ fdq cJ0_init_db425 10 (.invokevirtual 549) 3 = true ∧ fdq cJ0_init_db425 13 (.istore 4) 2 = true ∧ fdq cJ0_init_db425 15 (.aload_n 1) 1 = true ∧ fdq cJ0_init_db425 16 (.invokevirtual 1047) 3 = true ∧ fdq cJ0_init_db425 19 (.ifCond .eq 22) 3 = true ∧ fdq cJ0_init_db425 22 (.aload_n 0) 1 = true ∧ fdq cJ0_init_db425 23 (.iconst 0) 1 = true ∧ fdq cJ0_init_db425 24 (.putfield 15) 3 = true ∧ fdq cJ0_init_db425 27 (.aload_n 0) 1 = true := by decide +kernel
theorem dJ0_getBytes_840e7_43 : decode cJ0_getBytes_840e7 43 = .ok (.return_, 1) := fdf dAb_257.1
theorem dJ0_init_db425_0 : decode cJ0_init_db425 0 = .ok (.aload_n 0, 1) := fdf dAb_257.2.1
theorem dJ0_init_db425_1 : decode cJ0_init_db425 1 = .ok (.invokespecial 1, 3) := fdf dAb_257.2.2.1
theorem dJ0_init_db425_4 : decode cJ0_init_db425 4 = .ok (.aload_n 1, 1) := fdf dAb_257.2.2.2.1
theorem dJ0_init_db425_5 : decode cJ0_init_db425 5 = .ok (.invokevirtual 552, 3) := fdf dAb_257.2.2.2.2.1
theorem dJ0_init_db425_8 : decode cJ0_init_db425 8 = .ok (.astore_n 3, 1) := fdf dAb_257.2.2.2.2.2.1
theorem dJ0_init_db425_9 : decode cJ0_init_db425 9 = .ok (.aload_n 1, 1) := fdf dAb_257.2.2.2.2.2.2.1
theorem dJ0_init_db425_10 : decode cJ0_init_db425 10 = .ok (.invokevirtual 549, 3) := fdf dAb_257.2.2.2.2.2.2.2.1
theorem dJ0_init_db425_13 : decode cJ0_init_db425 13 = .ok (.istore 4, 2) := fdf dAb_257.2.2.2.2.2.2.2.2.1
theorem dJ0_init_db425_15 : decode cJ0_init_db425 15 = .ok (.aload_n 1, 1) := fdf dAb_257.2.2.2.2.2.2.2.2.2.1
theorem dJ0_init_db425_16 : decode cJ0_init_db425 16 = .ok (.invokevirtual 1047, 3) := fdf dAb_257.2.2.2.2.2.2.2.2.2.2.1
theorem dJ0_init_db425_19 : decode cJ0_init_db425 19 = .ok (.ifCond .eq 22, 3) := fdf dAb_257.2.2.2.2.2.2.2.2.2.2.2.1
theorem dJ0_init_db425_22 : decode cJ0_init_db425 22 = .ok (.aload_n 0, 1) := fdf dAb_257.2.2.2.2.2.2.2.2.2.2.2.2.1
theorem dJ0_init_db425_23 : decode cJ0_init_db425 23 = .ok (.iconst 0, 1) := fdf dAb_257.2.2.2.2.2.2.2.2.2.2.2.2.2.1
theorem dJ0_init_db425_24 : decode cJ0_init_db425 24 = .ok (.putfield 15, 3) := fdf dAb_257.2.2.2.2.2.2.2.2.2.2.2.2.2.2.1
theorem dJ0_init_db425_27 : decode cJ0_init_db425 27 = .ok (.aload_n 0, 1) := fdf dAb_257.2.2.2.2.2.2.2.2.2.2.2.2.2.2.2
theorem dAb_258 : fdq cJ0_init_db425 28 (.aload_n 3) 1 = true ∧ fdq cJ0_init_db425 29 (.iconst 0) 1 = true ∧ fdq cJ0_init_db425 30 (.iload 4) 2 = true ∧ fdq cJ0_init_db425 32 (.invokestatic 54) 3 = true ∧ fdq cJ0_init_db425 35 (.putfield 9) 3 = true ∧ fdq cJ0_init_db425 38 (.goto 59) 3 = true ∧ fdq cJ0_init_db425 41 (.getstatic 38) 3 = true ∧ fdq cJ0_init_db425 44 (.ifCond .eq 35) 3 = true ∧ fdq cJ0_init_db425 47 (.aload_n 1) 1 = true ∧ fdq cJ0_init_db425 48 (.getfield 1048) 3 = true ∧ fdq cJ0_init_db425 51 (.ifCond .eq 28) 3 = true ∧ fdq cJ0_init_db425 54 (.aload_n 0) 1 = true ∧ fdq cJ0_init_db425 55 (.aload_n 3) 1 = true ∧ fdq cJ0_init_db425 56 (.iconst 0) 1 = true ∧ fdq cJ0_init_db425 57 (.iload 4) 2 = true ∧ fdq cJ0_init_db425 79 (.aload_n 0) 1 = true := by decide +kernel
theorem dJ0_init_db425_28 : decode cJ0_init_db425 28 = .ok (.aload_n 3, 1) := fdf dAb_258.1
theorem dJ0_init_db425_29 : decode cJ0_init_db425 29 = .ok (.iconst 0, 1) := fdf dAb_258.2.1
theorem dJ0_init_db425_30 : decode cJ0_init_db425 30 = .ok (.iload 4, 2) := fdf dAb_258.2.2.1
theorem dJ0_init_db425_32 : decode cJ0_init_db425 32 = .ok (.invokestatic 54, 3) := fdf dAb_258.2.2.2.1
theorem dJ0_init_db425_35 : decode cJ0_init_db425 35 = .ok (.putfield 9, 3) := fdf dAb_258.2.2.2.2.1
theorem dJ0_init_db425_38 : decode cJ0_init_db425 38 = .ok (.goto 59, 3) := fdf dAb_258.2.2.2.2.2.1
theorem dJ0_init_db425_41 : decode cJ0_init_db425 41 = .ok (.getstatic 38, 3) := fdf dAb_258.2.2.2.2.2.2.1
theorem dJ0_init_db425_44 : decode cJ0_init_db425 44 = .ok (.ifCond .eq 35, 3) := fdf dAb_258.2.2.2.2.2.2.2.1
theorem dJ0_init_db425_47 : decode cJ0_init_db425 47 = .ok (.aload_n 1, 1) := fdf dAb_258.2.2.2.2.2.2.2.2.1
theorem dJ0_init_db425_48 : decode cJ0_init_db425 48 = .ok (.getfield 1048, 3) := fdf dAb_258.2.2.2.2.2.2.2.2.2.1
theorem dJ0_init_db425_51 : decode cJ0_init_db425 51 = .ok (.ifCond .eq 28, 3) := fdf dAb_258.2.2.2.2.2.2.2.2.2.2.1
theorem dJ0_init_db425_54 : decode cJ0_init_db425 54 = .ok (.aload_n 0, 1) := fdf dAb_258.2.2.2.2.2.2.2.2.2.2.2.1
theorem dJ0_init_db425_55 : decode cJ0_init_db425 55 = .ok (.aload_n 3, 1) := fdf dAb_258.2.2.2.2.2.2.2.2.2.2.2.2.1
theorem dJ0_init_db425_56 : decode cJ0_init_db425 56 = .ok (.iconst 0, 1) := fdf dAb_258.2.2.2.2.2.2.2.2.2.2.2.2.2.1
theorem dJ0_init_db425_57 : decode cJ0_init_db425 57 = .ok (.iload 4, 2) := fdf dAb_258.2.2.2.2.2.2.2.2.2.2.2.2.2.2.1
theorem dJ0_init_db425_79 : decode cJ0_init_db425 79 = .ok (.aload_n 0, 1) := fdf dAb_258.2.2.2.2.2.2.2.2.2.2.2.2.2.2.2
theorem dAb_259 : fdq cJ0_init_db425 80 (.iconst 1) 1 = true ∧ fdq cJ0_init_db425 81 (.putfield 15) 3 = true ∧ fdq cJ0_init_db425 84 (.aload_n 0) 1 = true ∧ fdq cJ0_init_db425 85 (.aload_n 3) 1 = true ∧ fdq cJ0_init_db425 86 (.iconst 0) 1 = true ∧ fdq cJ0_init_db425 87 (.iload 4) 2 = true ∧ fdq cJ0_init_db425 89 (.iconst 1) 1 = true ∧ fdq cJ0_init_db425 90 (.ishl) 1 = true ∧ fdq cJ0_init_db425 91 (.invokestatic 54) 3 = true ∧ fdq cJ0_init_db425 94 (.putfield 9) 3 = true ∧ fdq cJ0_init_db425 97 (.return_) 1 = true ∧ fdq cJ0_coder_7d493 0 (.getstatic 38) 3 = true ∧ fdq cJ0_coder_7d493 3 (.ifCond .eq 10) 3 = true ∧ fdq cJ0_coder_7d493 6 (.aload_n 0) 1 = true ∧ fdq cJ0_coder_7d493 7 (.getfield 15) 3 = true ∧ fdq cJ0_coder_7d493 10 (.goto 4) 3 = true := by decide +kernel
theorem dJ0_init_db425_80 : decode cJ0_init_db425 80 = .ok (.iconst 1, 1) := fdf dAb_259.1
theorem dJ0_init_db425_81 : decode cJ0_init_db425 81 = .ok (.putfield 15, 3) := fdf dAb_259.2.1
theorem dJ0_init_db425_84 : decode cJ0_init_db425 84 = .ok (.aload_n 0, 1) := fdf dAb_259.2.2.1
theorem dJ0_init_db425_85 : decode cJ0_init_db425 85 = .ok (.aload_n 3, 1) := fdf dAb_259.2.2.2.1
theorem dJ0_init_db425_86 : decode cJ0_init_db425 86 = .ok (.iconst 0, 1) := fdf dAb_259.2.2.2.2.1
theorem dJ0_init_db425_87 : decode cJ0_init_db425 87 = .ok (.iload 4, 2) := fdf dAb_259.2.2.2.2.2.1
theorem dJ0_init_db425_89 : decode cJ0_init_db425 89 = .ok (.iconst 1, 1) := fdf dAb_259.2.2.2.2.2.2.1
theorem dJ0_init_db425_90 : decode cJ0_init_db425 90 = .ok (.ishl, 1) := fdf dAb_259.2.2.2.2.2.2.2.1
theorem dJ0_init_db425_91 : decode cJ0_init_db425 91 = .ok (.invokestatic 54, 3) := fdf dAb_259.2.2.2.2.2.2.2.2.1
theorem dJ0_init_db425_94 : decode cJ0_init_db425 94 = .ok (.putfield 9, 3) := fdf dAb_259.2.2.2.2.2.2.2.2.2.1
theorem dJ0_init_db425_97 : decode cJ0_init_db425 97 = .ok (.return_, 1) := fdf dAb_259.2.2.2.2.2.2.2.2.2.2.1
theorem dJ0_coder_7d493_0 : decode cJ0_coder_7d493 0 = .ok (.getstatic 38, 3) := fdf dAb_259.2.2.2.2.2.2.2.2.2.2.2.1
theorem dJ0_coder_7d493_3 : decode cJ0_coder_7d493 3 = .ok (.ifCond .eq 10, 3) := fdf dAb_259.2.2.2.2.2.2.2.2.2.2.2.2.1
theorem dJ0_coder_7d493_6 : decode cJ0_coder_7d493 6 = .ok (.aload_n 0, 1) := fdf dAb_259.2.2.2.2.2.2.2.2.2.2.2.2.2.1
theorem dJ0_coder_7d493_7 : decode cJ0_coder_7d493 7 = .ok (.getfield 15, 3) := fdf dAb_259.2.2.2.2.2.2.2.2.2.2.2.2.2.2.1
theorem dJ0_coder_7d493_10 : decode cJ0_coder_7d493 10 = .ok (.goto 4, 3) := fdf dAb_259.2.2.2.2.2.2.2.2.2.2.2.2.2.2.2
theorem dAb_260 : fdq cJ0_coder_7d493 13 (.iconst 1) 1 = true ∧ fdq cJ0_coder_7d493 14 (.ireturn) 1 = true ∧ fdq cJ4_init_da8c8 0 (.aload_n 0) 1 = true ∧ fdq cJ4_init_da8c8 1 (.bipush 16) 2 = true ∧ fdq cJ4_init_da8c8 3 (.invokespecial 1) 3 = true ∧ fdq cJ4_init_da8c8 6 (.return_) 1 = true ∧ fdq cJ4_append_15ec4 0 (.aload_n 0) 1 = true ∧ fdq cJ4_append_15ec4 1 (.aload_n 1) 1 = true ∧ fdq cJ4_append_15ec4 2 (.invokespecial 29) 3 = true ∧ fdq cJ4_append_15ec4 5 (.pop) 1 = true ∧ fdq cJ4_append_15ec4 6 (.aload_n 0) 1 = true ∧ fdq cJ4_append_15ec4 7 (.areturn) 1 = true ∧ fdq cJ4_append_cf468 0 (.aload_n 0) 1 = true ∧ fdq cJ4_append_cf468 1 (.iload_n 1) 1 = true ∧ fdq cJ4_append_cf468 2 (.invokespecial 50) 3 = true ∧ fdq cJ4_append_cf468 5 (.pop) 1 = true := by decide +kernel
theorem dJ0_coder_7d493_13 : decode cJ0_coder_7d493 13 = .ok (.iconst 1, 1) := fdf dAb_260.1
theorem dJ0_coder_7d493_14 : decode cJ0_coder_7d493 14 = .ok (.ireturn, 1) := fdf dAb_260.2.1
theorem dJ4_init_da8c8_0 : decode cJ4_init_da8c8 0 = .ok (.aload_n 0, 1) := fdf dAb_260.2.2.1
theorem dJ4_init_da8c8_1 : decode cJ4_init_da8c8 1 = .ok (.bipush 16, 2) := fdf dAb_260.2.2.2.1
theorem dJ4_init_da8c8_3 : decode cJ4_init_da8c8 3 = .ok (.invokespecial 1, 3) := fdf dAb_260.2.2.2.2.1
theorem dJ4_init_da8c8_6 : decode cJ4_init_da8c8 6 = .ok (.return_, 1) := fdf dAb_260.2.2.2.2.2.1
theorem dJ4_append_15ec4_0 : decode cJ4_append_15ec4 0 = .ok (.aload_n 0, 1) := fdf dAb_260.2.2.2.2.2.2.1
theorem dJ4_append_15ec4_1 : decode cJ4_append_15ec4 1 = .ok (.aload_n 1, 1) := fdf dAb_260.2.2.2.2.2.2.2.1
theorem dJ4_append_15ec4_2 : decode cJ4_append_15ec4 2 = .ok (.invokespecial 29, 3) := fdf dAb_260.2.2.2.2.2.2.2.2.1
theorem dJ4_append_15ec4_5 : decode cJ4_append_15ec4 5 = .ok (.pop, 1) := fdf dAb_260.2.2.2.2.2.2.2.2.2.1
theorem dJ4_append_15ec4_6 : decode cJ4_append_15ec4 6 = .ok (.aload_n 0, 1) := fdf dAb_260.2.2.2.2.2.2.2.2.2.2.1
theorem dJ4_append_15ec4_7 : decode cJ4_append_15ec4 7 = .ok (.areturn, 1) := fdf dAb_260.2.2.2.2.2.2.2.2.2.2.2.1
theorem dJ4_append_cf468_0 : decode cJ4_append_cf468 0 = .ok (.aload_n 0, 1) := fdf dAb_260.2.2.2.2.2.2.2.2.2.2.2.2.1
theorem dJ4_append_cf468_1 : decode cJ4_append_cf468 1 = .ok (.iload_n 1, 1) := fdf dAb_260.2.2.2.2.2.2.2.2.2.2.2.2.2.1
theorem dJ4_append_cf468_2 : decode cJ4_append_cf468 2 = .ok (.invokespecial 50, 3) := fdf dAb_260.2.2.2.2.2.2.2.2.2.2.2.2.2.2.1
theorem dJ4_append_cf468_5 : decode cJ4_append_cf468 5 = .ok (.pop, 1) := fdf dAb_260.2.2.2.2.2.2.2.2.2.2.2.2.2.2.2
theorem dAb_261 : fdq cJ4_append_cf468 6 (.aload_n 0) 1 = true ∧ fdq cJ4_append_cf468 7 (.areturn) 1 = true ∧ fdq cJ4_append_bf812 0 (.aload_n 0) 1 = true ∧ fdq cJ4_append_bf812 1 (.iload_n 1) 1 = true ∧ fdq cJ4_append_bf812 2 (.invokespecial 53) 3 = true ∧ fdq cJ4_append_bf812 5 (.pop) 1 = true ∧ fdq cJ4_append_bf812 6 (.aload_n 0) 1 = true ∧ fdq cJ4_append_bf812 7 (.areturn) 1 = true ∧ fdq cJ4_toString_0e30d 0 (.new 18) 3 = true ∧ fdq cJ4_toString_0e30d 3 (.dup) 1 = true ∧ fdq cJ4_toString_0e30d 4 (.aload_n 0) 1 = true ∧ fdq cJ4_toString_0e30d 5 (.invokespecial 137) 3 = true ∧ fdq cJ4_toString_0e30d 8 (.areturn) 1 = true ∧ fdq cJ4_length_8abf5 0 (.aload_n 0) 1 = true ∧ fdq cJ4_length_8abf5 1 (.invokespecial 343) 3 = true ∧ fdq cJ4_length_8abf5 4 (.ireturn) 1 = true := by decide +kernel
theorem dJ4_append_cf468_6 : decode cJ4_append_cf468 6 = .ok (.aload_n 0, 1) := fdf dAb_261.1
theorem dJ4_append_cf468_7 : decode cJ4_append_cf468 7 = .ok (.areturn, 1) := fdf dAb_261.2.1
theorem dJ4_append_bf812_0 : decode cJ4_append_bf812 0 = .ok (.aload_n 0, 1) := fdf dAb_261.2.2.1
theorem dJ4_append_bf812_1 : decode cJ4_append_bf812 1 = .ok (.iload_n 1, 1) := fdf dAb_261.2.2.2.1
theorem dJ4_append_bf812_2 : decode cJ4_append_bf812 2 = .ok (.invokespecial 53, 3) := fdf dAb_261.2.2.2.2.1
theorem dJ4_append_bf812_5 : decode cJ4_append_bf812 5 = .ok (.pop, 1) := fdf dAb_261.2.2.2.2.2.1
theorem dJ4_append_bf812_6 : decode cJ4_append_bf812 6 = .ok (.aload_n 0, 1) := fdf dAb_261.2.2.2.2.2.2.1
theorem dJ4_append_bf812_7 : decode cJ4_append_bf812 7 = .ok (.areturn, 1) := fdf dAb_261.2.2.2.2.2.2.2.1
theorem dJ4_toString_0e30d_0 : decode cJ4_toString_0e30d 0 = .ok (.new 18, 3) := fdf dAb_261.2.2.2.2.2.2.2.2.1
theorem dJ4_toString_0e30d_3 : decode cJ4_toString_0e30d 3 = .ok (.dup, 1) := fdf dAb_261.2.2.2.2.2.2.2.2.2.1
theorem dJ4_toString_0e30d_4 : decode cJ4_toString_0e30d 4 = .ok (.aload_n 0, 1) := fdf dAb_261.2.2.2.2.2.2.2.2.2.2.1
theorem dJ4_toString_0e30d_5 : decode cJ4_toString_0e30d 5 = .ok (.invokespecial 137, 3) := fdf dAb_261.2.2.2.2.2.2.2.2.2.2.2.1
theorem dJ4_toString_0e30d_8 : decode cJ4_toString_0e30d 8 = .ok (.areturn, 1) := fdf dAb_261.2.2.2.2.2.2.2.2.2.2.2.2.1
theorem dJ4_length_8abf5_0 : decode cJ4_length_8abf5 0 = .ok (.aload_n 0, 1) := fdf dAb_261.2.2.2.2.2.2.2.2.2.2.2.2.2.1
theorem dJ4_length_8abf5_1 : decode cJ4_length_8abf5 1 = .ok (.invokespecial 343, 3) := fdf dAb_261.2.2.2.2.2.2.2.2.2.2.2.2.2.2.1
theorem dJ4_length_8abf5_4 : decode cJ4_length_8abf5 4 = .ok (.ireturn, 1) := fdf dAb_261.2.2.2.2.2.2.2.2.2.2.2.2.2.2.2
theorem dAb_262 : fdq cJ1_canEncode_fc78d 0 (.iload_n 0) 1 = true ∧ fdq cJ1_canEncode_fc78d 1 (.sipush 255) 3 = true ∧ fdq cJ1_canEncode_fc78d 4 (.if_icmp .gt 7) 3 = true ∧ fdq cJ1_canEncode_fc78d 7 (.iconst 1) 1 = true ∧ fdq cJ1_canEncode_fc78d 8 (.goto 4) 3 = true ∧ fdq cJ1_canEncode_fc78d 11 (.iconst 0) 1 = true ∧ fdq cJ1_canEncode_fc78d 12 (.ireturn) 1 = true ∧ fdq cJ7_copyOf_9075b 0 (.iload_n 1) 1 = true ∧ fdq cJ7_copyOf_9075b 1 (.aload_n 0) 1 = true ∧ fdq cJ7_copyOf_9075b 2 (.arraylength) 1 = true ∧ fdq cJ7_copyOf_9075b 3 (.if_icmp .ne 11) 3 = true ∧ fdq cJ7_copyOf_9075b 6 (.aload_n 0) 1 = true ∧ fdq cJ7_copyOf_9075b 14 (.iload_n 1) 1 = true ∧ fdq cJ7_copyOf_9075b 17 (.astore_n 2) 1 = true ∧ fdq cJ7_copyOf_9075b 18 (.aload_n 0) 1 = true ∧ fdq cJ7_copyOf_9075b 19 (.iconst 0) 1 = true := by decide +kernel
theorem dJ1_canEncode_fc78d_0 : decode cJ1_canEncode_fc78d 0 = .ok (.iload_n 0, 1) := fdf dAb_262.1
theorem dJ1_canEncode_fc78d_1 : decode cJ1_canEncode_fc78d 1 = .ok (.sipush 255, 3) := fdf dAb_262.2.1
theorem dJ1_canEncode_fc78d_4 : decode cJ1_canEncode_fc78d 4 = .ok (.if_icmp .gt 7, 3) := fdf dAb_262.2.2.1
theorem dJ1_canEncode_fc78d_7 : decode cJ1_canEncode_fc78d 7 = .ok (.iconst 1, 1) := fdf dAb_262.2.2.2.1
theorem dJ1_canEncode_fc78d_8 : decode cJ1_canEncode_fc78d 8 = .ok (.goto 4, 3) := fdf dAb_262.2.2.2.2.1
theorem dJ1_canEncode_fc78d_11 : decode cJ1_canEncode_fc78d 11 = .ok (.iconst 0, 1) := fdf dAb_262.2.2.2.2.2.1
theorem dJ1_canEncode_fc78d_12 : decode cJ1_canEncode_fc78d 12 = .ok (.ireturn, 1) := fdf dAb_262.2.2.2.2.2.2.1
theorem dJ7_copyOf_9075b_0 : decode cJ7_copyOf_9075b 0 = .ok (.iload_n 1, 1) := fdf dAb_262.2.2.2.2.2.2.2.1
theorem dJ7_copyOf_9075b_1 : decode cJ7_copyOf_9075b 1 = .ok (.aload_n 0, 1) := fdf dAb_262.2.2.2.2.2.2.2.2.1
theorem dJ7_copyOf_9075b_2 : decode cJ7_copyOf_9075b 2 = .ok (.arraylength, 1) := fdf dAb_262.2.2.2.2.2.2.2.2.2.1
theorem dJ7_copyOf_9075b_3 : decode cJ7_copyOf_9075b 3 = .ok (.if_icmp .ne 11, 3) := fdf dAb_262.2.2.2.2.2.2.2.2.2.2.1
theorem dJ7_copyOf_9075b_6 : decode cJ7_copyOf_9075b 6 = .ok (.aload_n 0, 1) := fdf dAb_262.2.2.2.2.2.2.2.2.2.2.2.1
theorem dJ7_copyOf_9075b_14 : decode cJ7_copyOf_9075b 14 = .ok (.iload_n 1, 1) := fdf dAb_262.2.2.2.2.2.2.2.2.2.2.2.2.1
theorem dJ7_copyOf_9075b_17 : decode cJ7_copyOf_9075b 17 = .ok (.astore_n 2, 1) := fdf dAb_262.2.2.2.2.2.2.2.2.2.2.2.2.2.1
theorem dJ7_copyOf_9075b_18 : decode cJ7_copyOf_9075b 18 = .ok (.aload_n 0, 1) := fdf dAb_262.2.2.2.2.2.2.2.2.2.2.2.2.2.2.1
theorem dJ7_copyOf_9075b_19 : decode cJ7_copyOf_9075b 19 = .ok (.iconst 0, 1) := fdf dAb_262.2.2.2.2.2.2.2.2.2.2.2.2.2.2.2
theorem dAb_263 : fdq cJ7_copyOf_9075b 20 (.aload_n 2) 1 = true ∧ fdq cJ7_copyOf_9075b 21 (.iconst 0) 1 = true ∧ fdq cJ7_copyOf_9075b 22 (.aload_n 0) 1 = true ∧ fdq cJ7_copyOf_9075b 23 (.arraylength) 1 = true ∧ fdq cJ7_copyOf_9075b 24 (.iload_n 1) 1 = true ∧ fdq cJ7_copyOf_9075b 25 (.invokestatic 304) 3 = true ∧ fdq cJ7_copyOf_9075b 28 (.invokestatic 150) 3 = true ∧ fdq cJ7_copyOf_9075b 31 (.aload_n 2) 1 = true ∧ fdq cJ7_copyOf_9075b 32 (.areturn) 1 = true ∧ fdq cJ7_checkLength_df160 0 (.iload_n 1) 1 = true ∧ fdq cJ7_checkLength_df160 1 (.iload_n 0) 1 = true ∧ fdq cJ7_checkLength_df160 2 (.if_icmp .ge 35) 3 = true ∧ fdq cJ7_checkLength_df160 37 (.return_) 1 = true ∧ fdq cJ7_copyOfRange_39247 0 (.iload_n 1) 1 = true ∧ fdq cJ7_copyOfRange_39247 1 (.ifCond .ne 9) 3 = true ∧ fdq cJ7_copyOfRange_39247 4 (.iload_n 2) 1 = true := by decide +kernel
theorem dJ7_copyOf_9075b_20 : decode cJ7_copyOf_9075b 20 = .ok (.aload_n 2, 1) := fdf dAb_263.1
theorem dJ7_copyOf_9075b_21 : decode cJ7_copyOf_9075b 21 = .ok (.iconst 0, 1) := fdf dAb_263.2.1
theorem dJ7_copyOf_9075b_22 : decode cJ7_copyOf_9075b 22 = .ok (.aload_n 0, 1) := fdf dAb_263.2.2.1
theorem dJ7_copyOf_9075b_23 : decode cJ7_copyOf_9075b 23 = .ok (.arraylength, 1) := fdf dAb_263.2.2.2.1
theorem dJ7_copyOf_9075b_24 : decode cJ7_copyOf_9075b 24 = .ok (.iload_n 1, 1) := fdf dAb_263.2.2.2.2.1
theorem dJ7_copyOf_9075b_25 : decode cJ7_copyOf_9075b 25 = .ok (.invokestatic 304, 3) := fdf dAb_263.2.2.2.2.2.1
theorem dJ7_copyOf_9075b_28 : decode cJ7_copyOf_9075b 28 = .ok (.invokestatic 150, 3) := fdf dAb_263.2.2.2.2.2.2.1
theorem dJ7_copyOf_9075b_31 : decode cJ7_copyOf_9075b 31 = .ok (.aload_n 2, 1) := fdf dAb_263.2.2.2.2.2.2.2.1
theorem dJ7_copyOf_9075b_32 : decode cJ7_copyOf_9075b 32 = .ok (.areturn, 1) := fdf dAb_263.2.2.2.2.2.2.2.2.1
theorem dJ7_checkLength_df160_0 : decode cJ7_checkLength_df160 0 = .ok (.iload_n 1, 1) := fdf dAb_263.2.2.2.2.2.2.2.2.2.1
theorem dJ7_checkLength_df160_1 : decode cJ7_checkLength_df160 1 = .ok (.iload_n 0, 1) := fdf dAb_263.2.2.2.2.2.2.2.2.2.2.1
theorem dJ7_checkLength_df160_2 : decode cJ7_checkLength_df160 2 = .ok (.if_icmp .ge 35, 3) := fdf dAb_263.2.2.2.2.2.2.2.2.2.2.2.1
theorem dJ7_checkLength_df160_37 : decode cJ7_checkLength_df160 37 = .ok (.return_, 1) := fdf dAb_263.2.2.2.2.2.2.2.2.2.2.2.2.1
theorem dJ7_copyOfRange_39247_0 : decode cJ7_copyOfRange_39247 0 = .ok (.iload_n 1, 1) := fdf dAb_263.2.2.2.2.2.2.2.2.2.2.2.2.2.1
theorem dJ7_copyOfRange_39247_1 : decode cJ7_copyOfRange_39247 1 = .ok (.ifCond .ne 9, 3) := fdf dAb_263.2.2.2.2.2.2.2.2.2.2.2.2.2.2.1
theorem dJ7_copyOfRange_39247_4 : decode cJ7_copyOfRange_39247 4 = .ok (.iload_n 2, 1) := fdf dAb_263.2.2.2.2.2.2.2.2.2.2.2.2.2.2.2
theorem dAb_264 : fdq cJ7_copyOfRange_39247 5 (.aload_n 0) 1 = true ∧ fdq cJ7_copyOfRange_39247 6 (.arraylength) 1 = true ∧ fdq cJ7_copyOfRange_39247 7 (.if_icmp .eq 10) 3 = true ∧ fdq cJ7_copyOfRange_39247 10 (.aload_n 0) 1 = true ∧ fdq cJ7_copyOfRange_39247 11 (.iload_n 1) 1 = true ∧ fdq cJ7_copyOfRange_39247 12 (.iload_n 2) 1 = true ∧ fdq cJ7_copyOfRange_39247 13 (.invokestatic 339) 3 = true ∧ fdq cJ7_copyOfRange_39247 16 (.areturn) 1 = true ∧ fdq cJ7_copyOfRange_39247 17 (.aload_n 0) 1 = true ∧ fdq cJ7_copyOfRange_39247 18 (.invokevirtual 310) 3 = true ∧ fdq cJ7_copyOfRange_39247 21 (.checkcast 311) 3 = true ∧ fdq cJ7_copyOfRange_39247 24 (.areturn) 1 = true ∧ fdq cJ7_copyOfRangeByte_39247 0 (.iload_n 1) 1 = true ∧ fdq cJ7_copyOfRangeByte_39247 1 (.iload_n 2) 1 = true ∧ fdq cJ7_copyOfRangeByte_39247 2 (.invokestatic 343) 3 = true ∧ fdq cJ7_copyOfRangeByte_39247 5 (.iload_n 2) 1 = true := by decide +kernel
theorem dJ7_copyOfRange_39247_5 : decode cJ7_copyOfRange_39247 5 = .ok (.aload_n 0, 1) := fdf dAb_264.1
theorem dJ7_copyOfRange_39247_6 : decode cJ7_copyOfRange_39247 6 = .ok (.arraylength, 1) := fdf dAb_264.2.1
theorem dJ7_copyOfRange_39247_7 : decode cJ7_copyOfRange_39247 7 = .ok (.if_icmp .eq 10, 3) := fdf dAb_264.2.2.1
theorem dJ7_copyOfRange_39247_10 : decode cJ7_copyOfRange_39247 10 = .ok (.aload_n 0, 1) := fdf dAb_264.2.2.2.1
theorem dJ7_copyOfRange_39247_11 : decode cJ7_copyOfRange_39247 11 = .ok (.iload_n 1, 1) := fdf dAb_264.2.2.2.2.1
theorem dJ7_copyOfRange_39247_12 : decode cJ7_copyOfRange_39247 12 = .ok (.iload_n 2, 1) := fdf dAb_264.2.2.2.2.2.1
theorem dJ7_copyOfRange_39247_13 : decode cJ7_copyOfRange_39247 13 = .ok (.invokestatic 339, 3) := fdf dAb_264.2.2.2.2.2.2.1
theorem dJ7_copyOfRange_39247_16 : decode cJ7_copyOfRange_39247 16 = .ok (.areturn, 1) := fdf dAb_264.2.2.2.2.2.2.2.1
theorem dJ7_copyOfRange_39247_17 : decode cJ7_copyOfRange_39247 17 = .ok (.aload_n 0, 1) := fdf dAb_264.2.2.2.2.2.2.2.2.1
theorem dJ7_copyOfRange_39247_18 : decode cJ7_copyOfRange_39247 18 = .ok (.invokevirtual 310, 3) := fdf dAb_264.2.2.2.2.2.2.2.2.2.1
theorem dJ7_copyOfRange_39247_21 : decode cJ7_copyOfRange_39247 21 = .ok (.checkcast 311, 3) := fdf dAb_264.2.2.2.2.2.2.2.2.2.2.1
theorem dJ7_copyOfRange_39247_24 : decode cJ7_copyOfRange_39247 24 = .ok (.areturn, 1) := fdf dAb_264.2.2.2.2.2.2.2.2.2.2.2.1
theorem dJ7_copyOfRangeByte_39247_0 : decode cJ7_copyOfRangeByte_39247 0 = .ok (.iload_n 1, 1) := fdf dAb_264.2.2.2.2.2.2.2.2.2.2.2.2.1
theorem dJ7_copyOfRangeByte_39247_1 : decode cJ7_copyOfRangeByte_39247 1 = .ok (.iload_n 2, 1) := fdf dAb_264.2.2.2.2.2.2.2.2.2.2.2.2.2.1
theorem dJ7_copyOfRangeByte_39247_2 : decode cJ7_copyOfRangeByte_39247 2 = .ok (.invokestatic 343, 3) := fdf dAb_264.2.2.2.2.2.2.2.2.2.2.2.2.2.2.1
theorem dJ7_copyOfRangeByte_39247_5 : decode cJ7_copyOfRangeByte_39247 5 = .ok (.iload_n 2, 1) := fdf dAb_264.2.2.2.2.2.2.2.2.2.2.2.2.2.2.2
theorem dAb_265 : fdq cJ7_copyOfRangeByte_39247 6 (.iload_n 1) 1 = true ∧ fdq cJ7_copyOfRangeByte_39247 7 (.isub) 1 = true ∧ fdq cJ7_copyOfRangeByte_39247 8 (.istore_n 3) 1 = true ∧ fdq cJ7_copyOfRangeByte_39247 9 (.iload_n 3) 1 = true ∧ fdq cJ7_copyOfRangeByte_39247 12 (.astore 4) 2 = true ∧ fdq cJ7_copyOfRangeByte_39247 14 (.aload_n 0) 1 = true ∧ fdq cJ7_copyOfRangeByte_39247 15 (.iload_n 1) 1 = true ∧ fdq cJ7_copyOfRangeByte_39247 16 (.aload 4) 2 = true ∧ fdq cJ7_copyOfRangeByte_39247 18 (.iconst 0) 1 = true ∧ fdq cJ7_copyOfRangeByte_39247 19 (.aload_n 0) 1 = true ∧ fdq cJ7_copyOfRangeByte_39247 20 (.arraylength) 1 = true ∧ fdq cJ7_copyOfRangeByte_39247 21 (.iload_n 1) 1 = true ∧ fdq cJ7_copyOfRangeByte_39247 22 (.isub) 1 = true ∧ fdq cJ7_copyOfRangeByte_39247 23 (.iload_n 3) 1 = true ∧ fdq cJ7_copyOfRangeByte_39247 24 (.invokestatic 304) 3 = true ∧ fdq cJ7_copyOfRangeByte_39247 27 (.invokestatic 150) 3 = true := by decide +kernel
theorem dJ7_copyOfRangeByte_39247_6 : decode cJ7_copyOfRangeByte_39247 6 = .ok (.iload_n 1, 1) := fdf dAb_265.1
theorem dJ7_copyOfRangeByte_39247_7 : decode cJ7_copyOfRangeByte_39247 7 = .ok (.isub, 1) := fdf dAb_265.2.1
theorem dJ7_copyOfRangeByte_39247_8 : decode cJ7_copyOfRangeByte_39247 8 = .ok (.istore_n 3, 1) := fdf dAb_265.2.2.1
theorem dJ7_copyOfRangeByte_39247_9 : decode cJ7_copyOfRangeByte_39247 9 = .ok (.iload_n 3, 1) := fdf dAb_265.2.2.2.1
theorem dJ7_copyOfRangeByte_39247_12 : decode cJ7_copyOfRangeByte_39247 12 = .ok (.astore 4, 2) := fdf dAb_265.2.2.2.2.1
theorem dJ7_copyOfRangeByte_39247_14 : decode cJ7_copyOfRangeByte_39247 14 = .ok (.aload_n 0, 1) := fdf dAb_265.2.2.2.2.2.1
theorem dJ7_copyOfRangeByte_39247_15 : decode cJ7_copyOfRangeByte_39247 15 = .ok (.iload_n 1, 1) := fdf dAb_265.2.2.2.2.2.2.1
theorem dJ7_copyOfRangeByte_39247_16 : decode cJ7_copyOfRangeByte_39247 16 = .ok (.aload 4, 2) := fdf dAb_265.2.2.2.2.2.2.2.1
theorem dJ7_copyOfRangeByte_39247_18 : decode cJ7_copyOfRangeByte_39247 18 = .ok (.iconst 0, 1) := fdf dAb_265.2.2.2.2.2.2.2.2.1
theorem dJ7_copyOfRangeByte_39247_19 : decode cJ7_copyOfRangeByte_39247 19 = .ok (.aload_n 0, 1) := fdf dAb_265.2.2.2.2.2.2.2.2.2.1
theorem dJ7_copyOfRangeByte_39247_20 : decode cJ7_copyOfRangeByte_39247 20 = .ok (.arraylength, 1) := fdf dAb_265.2.2.2.2.2.2.2.2.2.2.1
theorem dJ7_copyOfRangeByte_39247_21 : decode cJ7_copyOfRangeByte_39247 21 = .ok (.iload_n 1, 1) := fdf dAb_265.2.2.2.2.2.2.2.2.2.2.2.1
theorem dJ7_copyOfRangeByte_39247_22 : decode cJ7_copyOfRangeByte_39247 22 = .ok (.isub, 1) := fdf dAb_265.2.2.2.2.2.2.2.2.2.2.2.2.1
theorem dJ7_copyOfRangeByte_39247_23 : decode cJ7_copyOfRangeByte_39247 23 = .ok (.iload_n 3, 1) := fdf dAb_265.2.2.2.2.2.2.2.2.2.2.2.2.2.1
theorem dJ7_copyOfRangeByte_39247_24 : decode cJ7_copyOfRangeByte_39247 24 = .ok (.invokestatic 304, 3) := fdf dAb_265.2.2.2.2.2.2.2.2.2.2.2.2.2.2.1
theorem dJ7_copyOfRangeByte_39247_27 : decode cJ7_copyOfRangeByte_39247 27 = .ok (.invokestatic 150, 3) := fdf dAb_265.2.2.2.2.2.2.2.2.2.2.2.2.2.2.2
theorem dAb_266 : fdq cJ7_copyOfRangeByte_39247 30 (.aload 4) 2 = true ∧ fdq cJ7_copyOfRangeByte_39247 32 (.areturn) 1 = true ∧ fdq cJ8_newLength_cabcc 0 (.iload_n 0) 1 = true ∧ fdq cJ8_newLength_cabcc 1 (.iload_n 1) 1 = true ∧ fdq cJ8_newLength_cabcc 2 (.iload_n 2) 1 = true ∧ fdq cJ8_newLength_cabcc 3 (.invokestatic 194) 3 = true ∧ fdq cJ8_newLength_cabcc 6 (.iadd) 1 = true ∧ fdq cJ8_newLength_cabcc 7 (.istore_n 3) 1 = true ∧ fdq cJ8_newLength_cabcc 8 (.iconst 0) 1 = true ∧ fdq cJ8_newLength_cabcc 9 (.iload_n 3) 1 = true ∧ fdq cJ8_newLength_cabcc 10 (.if_icmp .ge 11) 3 = true ∧ fdq cJ8_newLength_cabcc 13 (.iload_n 3) 1 = true ∧ fdq cJ8_newLength_cabcc 14 (.ldc 200) 2 = true ∧ fdq cJ8_newLength_cabcc 16 (.if_icmp .gt 5) 3 = true ∧ fdq cJ8_newLength_cabcc 19 (.iload_n 3) 1 = true ∧ fdq cJ8_newLength_cabcc 20 (.ireturn) 1 = true := by decide +kernel
theorem dJ7_copyOfRangeByte_39247_30 : decode cJ7_copyOfRangeByte_39247 30 = .ok (.aload 4, 2) := fdf dAb_266.1
theorem dJ7_copyOfRangeByte_39247_32 : decode cJ7_copyOfRangeByte_39247 32 = .ok (.areturn, 1) := fdf dAb_266.2.1
theorem dJ8_newLength_cabcc_0 : decode cJ8_newLength_cabcc 0 = .ok (.iload_n 0, 1) := fdf dAb_266.2.2.1
theorem dJ8_newLength_cabcc_1 : decode cJ8_newLength_cabcc 1 = .ok (.iload_n 1, 1) := fdf dAb_266.2.2.2.1
theorem dJ8_newLength_cabcc_2 : decode cJ8_newLength_cabcc 2 = .ok (.iload_n 2, 1) := fdf dAb_266.2.2.2.2.1
theorem dJ8_newLength_cabcc_3 : decode cJ8_newLength_cabcc 3 = .ok (.invokestatic 194, 3) := fdf dAb_266.2.2.2.2.2.1
theorem dJ8_newLength_cabcc_6 : decode cJ8_newLength_cabcc 6 = .ok (.iadd, 1) := fdf dAb_266.2.2.2.2.2.2.1
theorem dJ8_newLength_cabcc_7 : decode cJ8_newLength_cabcc 7 = .ok (.istore_n 3, 1) := fdf dAb_266.2.2.2.2.2.2.2.1
theorem dJ8_newLength_cabcc_8 : decode cJ8_newLength_cabcc 8 = .ok (.iconst 0, 1) := fdf dAb_266.2.2.2.2.2.2.2.2.1
theorem dJ8_newLength_cabcc_9 : decode cJ8_newLength_cabcc 9 = .ok (.iload_n 3, 1) := fdf dAb_266.2.2.2.2.2.2.2.2.2.1
theorem dJ8_newLength_cabcc_10 : decode cJ8_newLength_cabcc 10 = .ok (.if_icmp .ge 11, 3) := fdf dAb_266.2.2.2.2.2.2.2.2.2.2.1
theorem dJ8_newLength_cabcc_13 : decode cJ8_newLength_cabcc 13 = .ok (.iload_n 3, 1) := fdf dAb_266.2.2.2.2.2.2.2.2.2.2.2.1
theorem dJ8_newLength_cabcc_14 : decode cJ8_newLength_cabcc 14 = .ok (.ldc 200, 2) := fdf dAb_266.2.2.2.2.2.2.2.2.2.2.2.2.1
theorem dJ8_newLength_cabcc_16 : decode cJ8_newLength_cabcc 16 = .ok (.if_icmp .gt 5, 3) := fdf dAb_266.2.2.2.2.2.2.2.2.2.2.2.2.2.1
theorem dJ8_newLength_cabcc_19 : decode cJ8_newLength_cabcc 19 = .ok (.iload_n 3, 1) := fdf dAb_266.2.2.2.2.2.2.2.2.2.2.2.2.2.2.1
theorem dJ8_newLength_cabcc_20 : decode cJ8_newLength_cabcc 20 = .ok (.ireturn, 1) := fdf dAb_266.2.2.2.2.2.2.2.2.2.2.2.2.2.2.2
theorem dAb_267 : fdq cJ8_newLength_cabcc 21 (.iload_n 0) 1 = true ∧ fdq cJ8_newLength_cabcc 22 (.iload_n 1) 1 = true ∧ fdq cL_lay 0 (.aload_n 3) 1 = true ∧ fdq cL_lay 1 (.aload_n 0) 1 = true ∧ fdq cL_lay 2 (.iload_n 1) 1 = true ∧ fdq cL_lay 3 (.iload_n 2) 1 = true ∧ fdq cL_lay 4 (.invokevirtual 7) 3 = true ∧ fdq cL_lay 7 (.i2l) 1 = true ∧ fdq cL_lay 8 (.putfield 13) 3 = true ∧ fdq cL_lay 11 (.goto 11) 3 = true ∧ fdq cL_lay 14 (.astore 4) 2 = true ∧ fdq cL_lay 16 (.iconst 1) 1 = true ∧ fdq cL_lay 17 (.ireturn) 1 = true ∧ fdq cL_lay 18 (.astore 4) 2 = true ∧ fdq cL_lay 20 (.iconst 2) 1 = true ∧ fdq cL_lay 21 (.ireturn) 1 = true := by decide +kernel
theorem dJ8_newLength_cabcc_21 : decode cJ8_newLength_cabcc 21 = .ok (.iload_n 0, 1) := fdf dAb_267.1
theorem dJ8_newLength_cabcc_22 : decode cJ8_newLength_cabcc 22 = .ok (.iload_n 1, 1) := fdf dAb_267.2.1
theorem dL_lay_0 : decode cL_lay 0 = .ok (.aload_n 3, 1) := fdf dAb_267.2.2.1
theorem dL_lay_1 : decode cL_lay 1 = .ok (.aload_n 0, 1) := fdf dAb_267.2.2.2.1
theorem dL_lay_2 : decode cL_lay 2 = .ok (.iload_n 1, 1) := fdf dAb_267.2.2.2.2.1
theorem dL_lay_3 : decode cL_lay 3 = .ok (.iload_n 2, 1) := fdf dAb_267.2.2.2.2.2.1
theorem dL_lay_4 : decode cL_lay 4 = .ok (.invokevirtual 7, 3) := fdf dAb_267.2.2.2.2.2.2.1
theorem dL_lay_7 : decode cL_lay 7 = .ok (.i2l, 1) := fdf dAb_267.2.2.2.2.2.2.2.1
theorem dL_lay_8 : decode cL_lay 8 = .ok (.putfield 13, 3) := fdf dAb_267.2.2.2.2.2.2.2.2.1
theorem dL_lay_11 : decode cL_lay 11 = .ok (.goto 11, 3) := fdf dAb_267.2.2.2.2.2.2.2.2.2.1
theorem dL_lay_14 : decode cL_lay 14 = .ok (.astore 4, 2) := fdf dAb_267.2.2.2.2.2.2.2.2.2.2.1
theorem dL_lay_16 : decode cL_lay 16 = .ok (.iconst 1, 1) := fdf dAb_267.2.2.2.2.2.2.2.2.2.2.2.1
theorem dL_lay_17 : decode cL_lay 17 = .ok (.ireturn, 1) := fdf dAb_267.2.2.2.2.2.2.2.2.2.2.2.2.1
theorem dL_lay_18 : decode cL_lay 18 = .ok (.astore 4, 2) := fdf dAb_267.2.2.2.2.2.2.2.2.2.2.2.2.2.1
theorem dL_lay_20 : decode cL_lay 20 = .ok (.iconst 2, 1) := fdf dAb_267.2.2.2.2.2.2.2.2.2.2.2.2.2.2.1
theorem dL_lay_21 : decode cL_lay 21 = .ok (.ireturn, 1) := fdf dAb_267.2.2.2.2.2.2.2.2.2.2.2.2.2.2.2
theorem dAb_268 : fdq cL_lay 22 (.iconst 0) 1 = true ∧ fdq cL_lay 23 (.ireturn) 1 = true ∧ fdq cL_put 0 (.aload 4) 2 = true ∧ fdq cL_put 2 (.aload_n 0) 1 = true ∧ fdq cL_put 3 (.iload_n 1) 1 = true ∧ fdq cL_put 4 (.iload_n 2) 1 = true ∧ fdq cL_put 5 (.iload_n 3) 1 = true ∧ fdq cL_put 6 (.invokevirtual 23) 3 = true ∧ fdq cL_put 9 (.i2l) 1 = true ∧ fdq cL_put 10 (.putfield 13) 3 = true ∧ fdq cL_put 13 (.goto 11) 3 = true ∧ fdq cL_put 16 (.astore 5) 2 = true ∧ fdq cL_put 18 (.iconst 1) 1 = true ∧ fdq cL_put 19 (.ireturn) 1 = true ∧ fdq cL_put 20 (.astore 5) 2 = true ∧ fdq cL_put 22 (.iconst 2) 1 = true := by decide +kernel
theorem dL_lay_22 : decode cL_lay 22 = .ok (.iconst 0, 1) := fdf dAb_268.1
theorem dL_lay_23 : decode cL_lay 23 = .ok (.ireturn, 1) := fdf dAb_268.2.1
theorem dL_put_0 : decode cL_put 0 = .ok (.aload 4, 2) := fdf dAb_268.2.2.1
theorem dL_put_2 : decode cL_put 2 = .ok (.aload_n 0, 1) := fdf dAb_268.2.2.2.1
theorem dL_put_3 : decode cL_put 3 = .ok (.iload_n 1, 1) := fdf dAb_268.2.2.2.2.1
theorem dL_put_4 : decode cL_put 4 = .ok (.iload_n 2, 1) := fdf dAb_268.2.2.2.2.2.1
theorem dL_put_5 : decode cL_put 5 = .ok (.iload_n 3, 1) := fdf dAb_268.2.2.2.2.2.2.1
theorem dL_put_6 : decode cL_put 6 = .ok (.invokevirtual 23, 3) := fdf dAb_268.2.2.2.2.2.2.2.1
theorem dL_put_9 : decode cL_put 9 = .ok (.i2l, 1) := fdf dAb_268.2.2.2.2.2.2.2.2.1
theorem dL_put_10 : decode cL_put 10 = .ok (.putfield 13, 3) := fdf dAb_268.2.2.2.2.2.2.2.2.2.1
theorem dL_put_13 : decode cL_put 13 = .ok (.goto 11, 3) := fdf dAb_268.2.2.2.2.2.2.2.2.2.2.1
theorem dL_put_16 : decode cL_put 16 = .ok (.astore 5, 2) := fdf dAb_268.2.2.2.2.2.2.2.2.2.2.2.1
theorem dL_put_18 : decode cL_put 18 = .ok (.iconst 1, 1) := fdf dAb_268.2.2.2.2.2.2.2.2.2.2.2.2.1
theorem dL_put_19 : decode cL_put 19 = .ok (.ireturn, 1) := fdf dAb_268.2.2.2.2.2.2.2.2.2.2.2.2.2.1
theorem dL_put_20 : decode cL_put 20 = .ok (.astore 5, 2) := fdf dAb_268.2.2.2.2.2.2.2.2.2.2.2.2.2.2.1
theorem dL_put_22 : decode cL_put 22 = .ok (.iconst 2, 1) := fdf dAb_268.2.2.2.2.2.2.2.2.2.2.2.2.2.2.2
theorem dAb_269 : fdq cL_put 23 (.ireturn) 1 = true ∧ fdq cL_put 24 (.iconst 0) 1 = true ∧ fdq cL_put 25 (.ireturn) 1 = true ∧ fdq cL_at 0 (.aload_n 3) 1 = true ∧ fdq cL_at 1 (.aload_n 0) 1 = true ∧ fdq cL_at 2 (.iload_n 1) 1 = true ∧ fdq cL_at 3 (.iload_n 2) 1 = true ∧ fdq cL_at 4 (.invokevirtual 27) 3 = true ∧ fdq cL_at 7 (.i2l) 1 = true ∧ fdq cL_at 8 (.putfield 13) 3 = true ∧ fdq cL_at 11 (.goto 7) 3 = true ∧ fdq cL_at 14 (.astore 4) 2 = true ∧ fdq cL_at 16 (.iconst 1) 1 = true ∧ fdq cL_at 17 (.ireturn) 1 = true ∧ fdq cL_at 18 (.iconst 0) 1 = true ∧ fdq cL_at 19 (.ireturn) 1 = true := by decide +kernel
theorem dL_put_23 : decode cL_put 23 = .ok (.ireturn, 1) := fdf dAb_269.1
theorem dL_put_24 : decode cL_put 24 = .ok (.iconst 0, 1) := fdf dAb_269.2.1
theorem dL_put_25 : decode cL_put 25 = .ok (.ireturn, 1) := fdf dAb_269.2.2.1
theorem dL_at_0 : decode cL_at 0 = .ok (.aload_n 3, 1) := fdf dAb_269.2.2.2.1
theorem dL_at_1 : decode cL_at 1 = .ok (.aload_n 0, 1) := fdf dAb_269.2.2.2.2.1
theorem dL_at_2 : decode cL_at 2 = .ok (.iload_n 1, 1) := fdf dAb_269.2.2.2.2.2.1
theorem dL_at_3 : decode cL_at 3 = .ok (.iload_n 2, 1) := fdf dAb_269.2.2.2.2.2.2.1
theorem dL_at_4 : decode cL_at 4 = .ok (.invokevirtual 27, 3) := fdf dAb_269.2.2.2.2.2.2.2.1
theorem dL_at_7 : decode cL_at 7 = .ok (.i2l, 1) := fdf dAb_269.2.2.2.2.2.2.2.2.1
theorem dL_at_8 : decode cL_at 8 = .ok (.putfield 13, 3) := fdf dAb_269.2.2.2.2.2.2.2.2.2.1
theorem dL_at_11 : decode cL_at 11 = .ok (.goto 7, 3) := fdf dAb_269.2.2.2.2.2.2.2.2.2.2.1
theorem dL_at_14 : decode cL_at 14 = .ok (.astore 4, 2) := fdf dAb_269.2.2.2.2.2.2.2.2.2.2.2.1
theorem dL_at_16 : decode cL_at 16 = .ok (.iconst 1, 1) := fdf dAb_269.2.2.2.2.2.2.2.2.2.2.2.2.1
theorem dL_at_17 : decode cL_at 17 = .ok (.ireturn, 1) := fdf dAb_269.2.2.2.2.2.2.2.2.2.2.2.2.2.1
theorem dL_at_18 : decode cL_at 18 = .ok (.iconst 0, 1) := fdf dAb_269.2.2.2.2.2.2.2.2.2.2.2.2.2.2.1
theorem dL_at_19 : decode cL_at 19 = .ok (.ireturn, 1) := fdf dAb_269.2.2.2.2.2.2.2.2.2.2.2.2.2.2.2
theorem dAb_270 : fdq cL_part 0 (.aload 5) 2 = true ∧ fdq cL_part 2 (.aload_n 0) 1 = true ∧ fdq cL_part 3 (.iload_n 1) 1 = true ∧ fdq cL_part 4 (.iload_n 2) 1 = true ∧ fdq cL_part 5 (.iload_n 3) 1 = true ∧ fdq cL_part 6 (.iload 4) 2 = true ∧ fdq cL_part 8 (.invokevirtual 30) 3 = true ∧ fdq cL_part 11 (.i2l) 1 = true ∧ fdq cL_part 12 (.putfield 13) 3 = true ∧ fdq cL_part 15 (.goto 11) 3 = true ∧ fdq cL_part 18 (.astore 6) 2 = true ∧ fdq cL_part 20 (.iconst 1) 1 = true ∧ fdq cL_part 21 (.ireturn) 1 = true ∧ fdq cL_part 22 (.astore 6) 2 = true ∧ fdq cL_part 24 (.iconst 2) 1 = true ∧ fdq cL_part 25 (.ireturn) 1 = true := by decide +kernel
theorem dL_part_0 : decode cL_part 0 = .ok (.aload 5, 2) := fdf dAb_270.1
theorem dL_part_2 : decode cL_part 2 = .ok (.aload_n 0, 1) := fdf dAb_270.2.1
theorem dL_part_3 : decode cL_part 3 = .ok (.iload_n 1, 1) := fdf dAb_270.2.2.1
theorem dL_part_4 : decode cL_part 4 = .ok (.iload_n 2, 1) := fdf dAb_270.2.2.2.1
theorem dL_part_5 : decode cL_part 5 = .ok (.iload_n 3, 1) := fdf dAb_270.2.2.2.2.1
theorem dL_part_6 : decode cL_part 6 = .ok (.iload 4, 2) := fdf dAb_270.2.2.2.2.2.1
theorem dL_part_8 : decode cL_part 8 = .ok (.invokevirtual 30, 3) := fdf dAb_270.2.2.2.2.2.2.1
theorem dL_part_11 : decode cL_part 11 = .ok (.i2l, 1) := fdf dAb_270.2.2.2.2.2.2.2.1
theorem dL_part_12 : decode cL_part 12 = .ok (.putfield 13, 3) := fdf dAb_270.2.2.2.2.2.2.2.2.1
theorem dL_part_15 : decode cL_part 15 = .ok (.goto 11, 3) := fdf dAb_270.2.2.2.2.2.2.2.2.2.1
theorem dL_part_18 : decode cL_part 18 = .ok (.astore 6, 2) := fdf dAb_270.2.2.2.2.2.2.2.2.2.2.1
theorem dL_part_20 : decode cL_part 20 = .ok (.iconst 1, 1) := fdf dAb_270.2.2.2.2.2.2.2.2.2.2.2.1
theorem dL_part_21 : decode cL_part 21 = .ok (.ireturn, 1) := fdf dAb_270.2.2.2.2.2.2.2.2.2.2.2.2.1
theorem dL_part_22 : decode cL_part 22 = .ok (.astore 6, 2) := fdf dAb_270.2.2.2.2.2.2.2.2.2.2.2.2.2.1
theorem dL_part_24 : decode cL_part 24 = .ok (.iconst 2, 1) := fdf dAb_270.2.2.2.2.2.2.2.2.2.2.2.2.2.2.1
theorem dL_part_25 : decode cL_part 25 = .ok (.ireturn, 1) := fdf dAb_270.2.2.2.2.2.2.2.2.2.2.2.2.2.2.2
theorem dAb_271 : fdq cL_part 26 (.iconst 0) 1 = true ∧ fdq cL_part 27 (.ireturn) 1 = true ∧ fdq cL_set 0 (.aload 4) 2 = true ∧ fdq cL_set 2 (.aload_n 0) 1 = true ∧ fdq cL_set 3 (.iload_n 1) 1 = true ∧ fdq cL_set 4 (.iload_n 2) 1 = true ∧ fdq cL_set 5 (.iload_n 3) 1 = true ∧ fdq cL_set 6 (.invokevirtual 34) 3 = true ∧ fdq cL_set 9 (.i2l) 1 = true ∧ fdq cL_set 10 (.putfield 13) 3 = true ∧ fdq cL_set 13 (.goto 11) 3 = true ∧ fdq cL_set 16 (.astore 5) 2 = true ∧ fdq cL_set 18 (.iconst 1) 1 = true ∧ fdq cL_set 19 (.ireturn) 1 = true ∧ fdq cL_set 20 (.astore 5) 2 = true ∧ fdq cL_set 22 (.iconst 2) 1 = true := by decide +kernel
theorem dL_part_26 : decode cL_part 26 = .ok (.iconst 0, 1) := fdf dAb_271.1
theorem dL_part_27 : decode cL_part 27 = .ok (.ireturn, 1) := fdf dAb_271.2.1
theorem dL_set_0 : decode cL_set 0 = .ok (.aload 4, 2) := fdf dAb_271.2.2.1
theorem dL_set_2 : decode cL_set 2 = .ok (.aload_n 0, 1) := fdf dAb_271.2.2.2.1
theorem dL_set_3 : decode cL_set 3 = .ok (.iload_n 1, 1) := fdf dAb_271.2.2.2.2.1
theorem dL_set_4 : decode cL_set 4 = .ok (.iload_n 2, 1) := fdf dAb_271.2.2.2.2.2.1
theorem dL_set_5 : decode cL_set 5 = .ok (.iload_n 3, 1) := fdf dAb_271.2.2.2.2.2.2.1
theorem dL_set_6 : decode cL_set 6 = .ok (.invokevirtual 34, 3) := fdf dAb_271.2.2.2.2.2.2.2.1
theorem dL_set_9 : decode cL_set 9 = .ok (.i2l, 1) := fdf dAb_271.2.2.2.2.2.2.2.2.1
theorem dL_set_10 : decode cL_set 10 = .ok (.putfield 13, 3) := fdf dAb_271.2.2.2.2.2.2.2.2.2.1
theorem dL_set_13 : decode cL_set 13 = .ok (.goto 11, 3) := fdf dAb_271.2.2.2.2.2.2.2.2.2.2.1
theorem dL_set_16 : decode cL_set 16 = .ok (.astore 5, 2) := fdf dAb_271.2.2.2.2.2.2.2.2.2.2.2.1
theorem dL_set_18 : decode cL_set 18 = .ok (.iconst 1, 1) := fdf dAb_271.2.2.2.2.2.2.2.2.2.2.2.2.1
theorem dL_set_19 : decode cL_set 19 = .ok (.ireturn, 1) := fdf dAb_271.2.2.2.2.2.2.2.2.2.2.2.2.2.1
theorem dL_set_20 : decode cL_set 20 = .ok (.astore 5, 2) := fdf dAb_271.2.2.2.2.2.2.2.2.2.2.2.2.2.2.1
theorem dL_set_22 : decode cL_set 22 = .ok (.iconst 2, 1) := fdf dAb_271.2.2.2.2.2.2.2.2.2.2.2.2.2.2.2
theorem dAb_272 : fdq cL_set 23 (.ireturn) 1 = true ∧ fdq cL_set 24 (.iconst 0) 1 = true ∧ fdq cL_set 25 (.ireturn) 1 = true ∧ fdq cL_get 0 (.aload_n 3) 1 = true ∧ fdq cL_get 1 (.aload_n 0) 1 = true ∧ fdq cL_get 2 (.iload_n 1) 1 = true ∧ fdq cL_get 3 (.iload_n 2) 1 = true ∧ fdq cL_get 4 (.invokevirtual 37) 3 = true ∧ fdq cL_get 7 (.i2l) 1 = true ∧ fdq cL_get 8 (.putfield 13) 3 = true ∧ fdq cL_get 11 (.goto 7) 3 = true ∧ fdq cL_get 14 (.astore 4) 2 = true ∧ fdq cL_get 16 (.iconst 1) 1 = true ∧ fdq cL_get 17 (.ireturn) 1 = true ∧ fdq cL_get 18 (.iconst 0) 1 = true ∧ fdq cL_get 19 (.ireturn) 1 = true := by decide +kernel
theorem dL_set_23 : decode cL_set 23 = .ok (.ireturn, 1) := fdf dAb_272.1
theorem dL_set_24 : decode cL_set 24 = .ok (.iconst 0, 1) := fdf dAb_272.2.1
theorem dL_set_25 : decode cL_set 25 = .ok (.ireturn, 1) := fdf dAb_272.2.2.1
theorem dL_get_0 : decode cL_get 0 = .ok (.aload_n 3, 1) := fdf dAb_272.2.2.2.1
theorem dL_get_1 : decode cL_get 1 = .ok (.aload_n 0, 1) := fdf dAb_272.2.2.2.2.1
theorem dL_get_2 : decode cL_get 2 = .ok (.iload_n 1, 1) := fdf dAb_272.2.2.2.2.2.1
theorem dL_get_3 : decode cL_get 3 = .ok (.iload_n 2, 1) := fdf dAb_272.2.2.2.2.2.2.1
theorem dL_get_4 : decode cL_get 4 = .ok (.invokevirtual 37, 3) := fdf dAb_272.2.2.2.2.2.2.2.1
theorem dL_get_7 : decode cL_get 7 = .ok (.i2l, 1) := fdf dAb_272.2.2.2.2.2.2.2.2.1
theorem dL_get_8 : decode cL_get 8 = .ok (.putfield 13, 3) := fdf dAb_272.2.2.2.2.2.2.2.2.2.1
theorem dL_get_11 : decode cL_get 11 = .ok (.goto 7, 3) := fdf dAb_272.2.2.2.2.2.2.2.2.2.2.1
theorem dL_get_14 : decode cL_get 14 = .ok (.astore 4, 2) := fdf dAb_272.2.2.2.2.2.2.2.2.2.2.2.1
theorem dL_get_16 : decode cL_get 16 = .ok (.iconst 1, 1) := fdf dAb_272.2.2.2.2.2.2.2.2.2.2.2.2.1
theorem dL_get_17 : decode cL_get 17 = .ok (.ireturn, 1) := fdf dAb_272.2.2.2.2.2.2.2.2.2.2.2.2.2.1
theorem dL_get_18 : decode cL_get 18 = .ok (.iconst 0, 1) := fdf dAb_272.2.2.2.2.2.2.2.2.2.2.2.2.2.2.1
theorem dL_get_19 : decode cL_get 19 = .ok (.ireturn, 1) := fdf dAb_272.2.2.2.2.2.2.2.2.2.2.2.2.2.2.2
theorem dAb_273 : fdq cL_length 0 (.aload_n 2) 1 = true ∧ fdq cL_length 1 (.aload_n 0) 1 = true ∧ fdq cL_length 2 (.iload_n 1) 1 = true ∧ fdq cL_length 3 (.invokevirtual 40) 3 = true ∧ fdq cL_length 6 (.i2l) 1 = true ∧ fdq cL_length 7 (.putfield 13) 3 = true ∧ fdq cL_length 10 (.goto 6) 3 = true ∧ fdq cL_length 13 (.astore_n 3) 1 = true ∧ fdq cL_length 14 (.iconst 1) 1 = true ∧ fdq cL_length 15 (.ireturn) 1 = true ∧ fdq cL_length 16 (.iconst 0) 1 = true ∧ fdq cL_length 17 (.ireturn) 1 = true ∧ fdq cL_isEmpty 0 (.aload_n 2) 1 = true ∧ fdq cL_isEmpty 1 (.aload_n 0) 1 = true ∧ fdq cL_isEmpty 2 (.iload_n 1) 1 = true ∧ fdq cL_isEmpty 3 (.invokevirtual 44) 3 = true := by decide +kernel
theorem dL_length_0 : decode cL_length 0 = .ok (.aload_n 2, 1) := fdf dAb_273.1
theorem dL_length_1 : decode cL_length 1 = .ok (.aload_n 0, 1) := fdf dAb_273.2.1
theorem dL_length_2 : decode cL_length 2 = .ok (.iload_n 1, 1) := fdf dAb_273.2.2.1
theorem dL_length_3 : decode cL_length 3 = .ok (.invokevirtual 40, 3) := fdf dAb_273.2.2.2.1
theorem dL_length_6 : decode cL_length 6 = .ok (.i2l, 1) := fdf dAb_273.2.2.2.2.1
theorem dL_length_7 : decode cL_length 7 = .ok (.putfield 13, 3) := fdf dAb_273.2.2.2.2.2.1
theorem dL_length_10 : decode cL_length 10 = .ok (.goto 6, 3) := fdf dAb_273.2.2.2.2.2.2.1
theorem dL_length_13 : decode cL_length 13 = .ok (.astore_n 3, 1) := fdf dAb_273.2.2.2.2.2.2.2.1
theorem dL_length_14 : decode cL_length 14 = .ok (.iconst 1, 1) := fdf dAb_273.2.2.2.2.2.2.2.2.1
theorem dL_length_15 : decode cL_length 15 = .ok (.ireturn, 1) := fdf dAb_273.2.2.2.2.2.2.2.2.2.1
theorem dL_length_16 : decode cL_length 16 = .ok (.iconst 0, 1) := fdf dAb_273.2.2.2.2.2.2.2.2.2.2.1
theorem dL_length_17 : decode cL_length 17 = .ok (.ireturn, 1) := fdf dAb_273.2.2.2.2.2.2.2.2.2.2.2.1
theorem dL_isEmpty_0 : decode cL_isEmpty 0 = .ok (.aload_n 2, 1) := fdf dAb_273.2.2.2.2.2.2.2.2.2.2.2.2.1
theorem dL_isEmpty_1 : decode cL_isEmpty 1 = .ok (.aload_n 0, 1) := fdf dAb_273.2.2.2.2.2.2.2.2.2.2.2.2.2.1
theorem dL_isEmpty_2 : decode cL_isEmpty 2 = .ok (.iload_n 1, 1) := fdf dAb_273.2.2.2.2.2.2.2.2.2.2.2.2.2.2.1
theorem dL_isEmpty_3 : decode cL_isEmpty 3 = .ok (.invokevirtual 44, 3) := fdf dAb_273.2.2.2.2.2.2.2.2.2.2.2.2.2.2.2
theorem dAb_274 : fdq cL_isEmpty 6 (.ifCond .eq 7) 3 = true ∧ fdq cL_isEmpty 9 (.lconst 1) 1 = true ∧ fdq cL_isEmpty 10 (.goto 4) 3 = true ∧ fdq cL_isEmpty 13 (.lconst 0) 1 = true ∧ fdq cL_isEmpty 14 (.putfield 13) 3 = true ∧ fdq cL_isEmpty 17 (.goto 6) 3 = true ∧ fdq cL_isEmpty 20 (.astore_n 3) 1 = true ∧ fdq cL_isEmpty 21 (.iconst 1) 1 = true ∧ fdq cL_isEmpty 22 (.ireturn) 1 = true ∧ fdq cL_isEmpty 23 (.iconst 0) 1 = true ∧ fdq cL_isEmpty 24 (.ireturn) 1 = true ∧ fdq cL_text 0 (.aload_n 2) 1 = true ∧ fdq cL_text 1 (.aload_n 0) 1 = true ∧ fdq cL_text 2 (.iload_n 1) 1 = true ∧ fdq cL_text 3 (.invokevirtual 48) 3 = true ∧ fdq cL_text 6 (.putfield 52) 3 = true := by decide +kernel
theorem dL_isEmpty_6 : decode cL_isEmpty 6 = .ok (.ifCond .eq 7, 3) := fdf dAb_274.1
theorem dL_isEmpty_9 : decode cL_isEmpty 9 = .ok (.lconst 1, 1) := fdf dAb_274.2.1
theorem dL_isEmpty_10 : decode cL_isEmpty 10 = .ok (.goto 4, 3) := fdf dAb_274.2.2.1
theorem dL_isEmpty_13 : decode cL_isEmpty 13 = .ok (.lconst 0, 1) := fdf dAb_274.2.2.2.1
theorem dL_isEmpty_14 : decode cL_isEmpty 14 = .ok (.putfield 13, 3) := fdf dAb_274.2.2.2.2.1
theorem dL_isEmpty_17 : decode cL_isEmpty 17 = .ok (.goto 6, 3) := fdf dAb_274.2.2.2.2.2.1
theorem dL_isEmpty_20 : decode cL_isEmpty 20 = .ok (.astore_n 3, 1) := fdf dAb_274.2.2.2.2.2.2.1
theorem dL_isEmpty_21 : decode cL_isEmpty 21 = .ok (.iconst 1, 1) := fdf dAb_274.2.2.2.2.2.2.2.1
theorem dL_isEmpty_22 : decode cL_isEmpty 22 = .ok (.ireturn, 1) := fdf dAb_274.2.2.2.2.2.2.2.2.1
theorem dL_isEmpty_23 : decode cL_isEmpty 23 = .ok (.iconst 0, 1) := fdf dAb_274.2.2.2.2.2.2.2.2.2.1
theorem dL_isEmpty_24 : decode cL_isEmpty 24 = .ok (.ireturn, 1) := fdf dAb_274.2.2.2.2.2.2.2.2.2.2.1
theorem dL_text_0 : decode cL_text 0 = .ok (.aload_n 2, 1) := fdf dAb_274.2.2.2.2.2.2.2.2.2.2.2.1
theorem dL_text_1 : decode cL_text 1 = .ok (.aload_n 0, 1) := fdf dAb_274.2.2.2.2.2.2.2.2.2.2.2.2.1
theorem dL_text_2 : decode cL_text 2 = .ok (.iload_n 1, 1) := fdf dAb_274.2.2.2.2.2.2.2.2.2.2.2.2.2.1
theorem dL_text_3 : decode cL_text 3 = .ok (.invokevirtual 48, 3) := fdf dAb_274.2.2.2.2.2.2.2.2.2.2.2.2.2.2.1
theorem dL_text_6 : decode cL_text 6 = .ok (.putfield 52, 3) := fdf dAb_274.2.2.2.2.2.2.2.2.2.2.2.2.2.2.2
theorem dAb_275 : fdq cL_text 9 (.goto 6) 3 = true ∧ fdq cL_text 12 (.astore_n 3) 1 = true ∧ fdq cL_text 13 (.iconst 1) 1 = true ∧ fdq cL_text 14 (.ireturn) 1 = true ∧ fdq cL_text 15 (.iconst 0) 1 = true ∧ fdq cL_text 16 (.ireturn) 1 = true ∧ fdq cL_back 0 (.aload_n 2) 1 = true ∧ fdq cL_back 1 (.aload_n 0) 1 = true ∧ fdq cL_back 2 (.iload_n 1) 1 = true ∧ fdq cL_back 3 (.invokevirtual 56) 3 = true ∧ fdq cL_back 6 (.putfield 52) 3 = true ∧ fdq cL_back 9 (.goto 6) 3 = true ∧ fdq cL_back 12 (.astore_n 3) 1 = true ∧ fdq cL_back 13 (.iconst 1) 1 = true ∧ fdq cL_back 14 (.ireturn) 1 = true ∧ fdq cL_back 15 (.iconst 0) 1 = true := by decide +kernel
theorem dL_text_9 : decode cL_text 9 = .ok (.goto 6, 3) := fdf dAb_275.1
theorem dL_text_12 : decode cL_text 12 = .ok (.astore_n 3, 1) := fdf dAb_275.2.1
theorem dL_text_13 : decode cL_text 13 = .ok (.iconst 1, 1) := fdf dAb_275.2.2.1
theorem dL_text_14 : decode cL_text 14 = .ok (.ireturn, 1) := fdf dAb_275.2.2.2.1
theorem dL_text_15 : decode cL_text 15 = .ok (.iconst 0, 1) := fdf dAb_275.2.2.2.2.1
theorem dL_text_16 : decode cL_text 16 = .ok (.ireturn, 1) := fdf dAb_275.2.2.2.2.2.1
theorem dL_back_0 : decode cL_back 0 = .ok (.aload_n 2, 1) := fdf dAb_275.2.2.2.2.2.2.1
theorem dL_back_1 : decode cL_back 1 = .ok (.aload_n 0, 1) := fdf dAb_275.2.2.2.2.2.2.2.1
theorem dL_back_2 : decode cL_back 2 = .ok (.iload_n 1, 1) := fdf dAb_275.2.2.2.2.2.2.2.2.1
theorem dL_back_3 : decode cL_back 3 = .ok (.invokevirtual 56, 3) := fdf dAb_275.2.2.2.2.2.2.2.2.2.1
theorem dL_back_6 : decode cL_back 6 = .ok (.putfield 52, 3) := fdf dAb_275.2.2.2.2.2.2.2.2.2.2.1
theorem dL_back_9 : decode cL_back 9 = .ok (.goto 6, 3) := fdf dAb_275.2.2.2.2.2.2.2.2.2.2.2.1
theorem dL_back_12 : decode cL_back 12 = .ok (.astore_n 3, 1) := fdf dAb_275.2.2.2.2.2.2.2.2.2.2.2.2.1
theorem dL_back_13 : decode cL_back 13 = .ok (.iconst 1, 1) := fdf dAb_275.2.2.2.2.2.2.2.2.2.2.2.2.2.1
theorem dL_back_14 : decode cL_back 14 = .ok (.ireturn, 1) := fdf dAb_275.2.2.2.2.2.2.2.2.2.2.2.2.2.2.1
theorem dL_back_15 : decode cL_back 15 = .ok (.iconst 0, 1) := fdf dAb_275.2.2.2.2.2.2.2.2.2.2.2.2.2.2.2
theorem dAb_276 : fdq cL_back 16 (.ireturn) 1 = true ∧ fdq cL_indexOf 0 (.aload_n 3) 1 = true ∧ fdq cL_indexOf 1 (.aload_n 0) 1 = true ∧ fdq cL_indexOf 2 (.iload_n 1) 1 = true ∧ fdq cL_indexOf 3 (.iload_n 2) 1 = true ∧ fdq cL_indexOf 4 (.invokevirtual 59) 3 = true ∧ fdq cL_indexOf 7 (.i2l) 1 = true ∧ fdq cL_indexOf 8 (.putfield 13) 3 = true ∧ fdq cL_indexOf 11 (.goto 11) 3 = true ∧ fdq cL_indexOf 14 (.astore 4) 2 = true ∧ fdq cL_indexOf 16 (.iconst 1) 1 = true ∧ fdq cL_indexOf 17 (.ireturn) 1 = true ∧ fdq cL_indexOf 18 (.astore 4) 2 = true ∧ fdq cL_indexOf 20 (.iconst 2) 1 = true ∧ fdq cL_indexOf 21 (.ireturn) 1 = true ∧ fdq cL_indexOf 22 (.iconst 0) 1 = true := by decide +kernel
theorem dL_back_16 : decode cL_back 16 = .ok (.ireturn, 1) := fdf dAb_276.1
theorem dL_indexOf_0 : decode cL_indexOf 0 = .ok (.aload_n 3, 1) := fdf dAb_276.2.1
theorem dL_indexOf_1 : decode cL_indexOf 1 = .ok (.aload_n 0, 1) := fdf dAb_276.2.2.1
theorem dL_indexOf_2 : decode cL_indexOf 2 = .ok (.iload_n 1, 1) := fdf dAb_276.2.2.2.1
theorem dL_indexOf_3 : decode cL_indexOf 3 = .ok (.iload_n 2, 1) := fdf dAb_276.2.2.2.2.1
theorem dL_indexOf_4 : decode cL_indexOf 4 = .ok (.invokevirtual 59, 3) := fdf dAb_276.2.2.2.2.2.1
theorem dL_indexOf_7 : decode cL_indexOf 7 = .ok (.i2l, 1) := fdf dAb_276.2.2.2.2.2.2.1
theorem dL_indexOf_8 : decode cL_indexOf 8 = .ok (.putfield 13, 3) := fdf dAb_276.2.2.2.2.2.2.2.1
theorem dL_indexOf_11 : decode cL_indexOf 11 = .ok (.goto 11, 3) := fdf dAb_276.2.2.2.2.2.2.2.2.1
theorem dL_indexOf_14 : decode cL_indexOf 14 = .ok (.astore 4, 2) := fdf dAb_276.2.2.2.2.2.2.2.2.2.1
theorem dL_indexOf_16 : decode cL_indexOf 16 = .ok (.iconst 1, 1) := fdf dAb_276.2.2.2.2.2.2.2.2.2.2.1
theorem dL_indexOf_17 : decode cL_indexOf 17 = .ok (.ireturn, 1) := fdf dAb_276.2.2.2.2.2.2.2.2.2.2.2.1
theorem dL_indexOf_18 : decode cL_indexOf 18 = .ok (.astore 4, 2) := fdf dAb_276.2.2.2.2.2.2.2.2.2.2.2.2.1
theorem dL_indexOf_20 : decode cL_indexOf 20 = .ok (.iconst 2, 1) := fdf dAb_276.2.2.2.2.2.2.2.2.2.2.2.2.2.1
theorem dL_indexOf_21 : decode cL_indexOf 21 = .ok (.ireturn, 1) := fdf dAb_276.2.2.2.2.2.2.2.2.2.2.2.2.2.2.1
theorem dL_indexOf_22 : decode cL_indexOf 22 = .ok (.iconst 0, 1) := fdf dAb_276.2.2.2.2.2.2.2.2.2.2.2.2.2.2.2
theorem dAb_277 : fdq cL_indexOf 23 (.ireturn) 1 = true ∧ fdq cL_lastIndexOf 0 (.aload_n 3) 1 = true ∧ fdq cL_lastIndexOf 1 (.aload_n 0) 1 = true ∧ fdq cL_lastIndexOf 2 (.iload_n 1) 1 = true ∧ fdq cL_lastIndexOf 3 (.iload_n 2) 1 = true ∧ fdq cL_lastIndexOf 4 (.invokevirtual 62) 3 = true ∧ fdq cL_lastIndexOf 7 (.i2l) 1 = true ∧ fdq cL_lastIndexOf 8 (.putfield 13) 3 = true ∧ fdq cL_lastIndexOf 11 (.goto 11) 3 = true ∧ fdq cL_lastIndexOf 14 (.astore 4) 2 = true ∧ fdq cL_lastIndexOf 16 (.iconst 1) 1 = true ∧ fdq cL_lastIndexOf 17 (.ireturn) 1 = true ∧ fdq cL_lastIndexOf 18 (.astore 4) 2 = true ∧ fdq cL_lastIndexOf 20 (.iconst 2) 1 = true ∧ fdq cL_lastIndexOf 21 (.ireturn) 1 = true ∧ fdq cL_lastIndexOf 22 (.iconst 0) 1 = true := by decide +kernel
theorem dL_indexOf_23 : decode cL_indexOf 23 = .ok (.ireturn, 1) := fdf dAb_277.1
theorem dL_lastIndexOf_0 : decode cL_lastIndexOf 0 = .ok (.aload_n 3, 1) := fdf dAb_277.2.1
theorem dL_lastIndexOf_1 : decode cL_lastIndexOf 1 = .ok (.aload_n 0, 1) := fdf dAb_277.2.2.1
theorem dL_lastIndexOf_2 : decode cL_lastIndexOf 2 = .ok (.iload_n 1, 1) := fdf dAb_277.2.2.2.1
theorem dL_lastIndexOf_3 : decode cL_lastIndexOf 3 = .ok (.iload_n 2, 1) := fdf dAb_277.2.2.2.2.1
theorem dL_lastIndexOf_4 : decode cL_lastIndexOf 4 = .ok (.invokevirtual 62, 3) := fdf dAb_277.2.2.2.2.2.1
theorem dL_lastIndexOf_7 : decode cL_lastIndexOf 7 = .ok (.i2l, 1) := fdf dAb_277.2.2.2.2.2.2.1
theorem dL_lastIndexOf_8 : decode cL_lastIndexOf 8 = .ok (.putfield 13, 3) := fdf dAb_277.2.2.2.2.2.2.2.1
theorem dL_lastIndexOf_11 : decode cL_lastIndexOf 11 = .ok (.goto 11, 3) := fdf dAb_277.2.2.2.2.2.2.2.2.1
theorem dL_lastIndexOf_14 : decode cL_lastIndexOf 14 = .ok (.astore 4, 2) := fdf dAb_277.2.2.2.2.2.2.2.2.2.1
theorem dL_lastIndexOf_16 : decode cL_lastIndexOf 16 = .ok (.iconst 1, 1) := fdf dAb_277.2.2.2.2.2.2.2.2.2.2.1
theorem dL_lastIndexOf_17 : decode cL_lastIndexOf 17 = .ok (.ireturn, 1) := fdf dAb_277.2.2.2.2.2.2.2.2.2.2.2.1
theorem dL_lastIndexOf_18 : decode cL_lastIndexOf 18 = .ok (.astore 4, 2) := fdf dAb_277.2.2.2.2.2.2.2.2.2.2.2.2.1
theorem dL_lastIndexOf_20 : decode cL_lastIndexOf 20 = .ok (.iconst 2, 1) := fdf dAb_277.2.2.2.2.2.2.2.2.2.2.2.2.2.1
theorem dL_lastIndexOf_21 : decode cL_lastIndexOf 21 = .ok (.ireturn, 1) := fdf dAb_277.2.2.2.2.2.2.2.2.2.2.2.2.2.2.1
theorem dL_lastIndexOf_22 : decode cL_lastIndexOf 22 = .ok (.iconst 0, 1) := fdf dAb_277.2.2.2.2.2.2.2.2.2.2.2.2.2.2.2
theorem dAb_278 : fdq cL_lastIndexOf 23 (.ireturn) 1 = true ∧ fdq cL_has 0 (.aload_n 3) 1 = true ∧ fdq cL_has 1 (.aload_n 0) 1 = true ∧ fdq cL_has 2 (.iload_n 1) 1 = true ∧ fdq cL_has 3 (.iload_n 2) 1 = true ∧ fdq cL_has 4 (.invokevirtual 65) 3 = true ∧ fdq cL_has 7 (.ifCond .eq 7) 3 = true ∧ fdq cL_has 10 (.lconst 1) 1 = true ∧ fdq cL_has 11 (.goto 4) 3 = true ∧ fdq cL_has 14 (.lconst 0) 1 = true ∧ fdq cL_has 15 (.putfield 13) 3 = true ∧ fdq cL_has 18 (.goto 11) 3 = true ∧ fdq cL_has 21 (.astore 4) 2 = true ∧ fdq cL_has 23 (.iconst 1) 1 = true ∧ fdq cL_has 24 (.ireturn) 1 = true ∧ fdq cL_has 25 (.astore 4) 2 = true := by decide +kernel
theorem dL_lastIndexOf_23 : decode cL_lastIndexOf 23 = .ok (.ireturn, 1) := fdf dAb_278.1
theorem dL_has_0 : decode cL_has 0 = .ok (.aload_n 3, 1) := fdf dAb_278.2.1
theorem dL_has_1 : decode cL_has 1 = .ok (.aload_n 0, 1) := fdf dAb_278.2.2.1
theorem dL_has_2 : decode cL_has 2 = .ok (.iload_n 1, 1) := fdf dAb_278.2.2.2.1
theorem dL_has_3 : decode cL_has 3 = .ok (.iload_n 2, 1) := fdf dAb_278.2.2.2.2.1
theorem dL_has_4 : decode cL_has 4 = .ok (.invokevirtual 65, 3) := fdf dAb_278.2.2.2.2.2.1
theorem dL_has_7 : decode cL_has 7 = .ok (.ifCond .eq 7, 3) := fdf dAb_278.2.2.2.2.2.2.1
theorem dL_has_10 : decode cL_has 10 = .ok (.lconst 1, 1) := fdf dAb_278.2.2.2.2.2.2.2.1
theorem dL_has_11 : decode cL_has 11 = .ok (.goto 4, 3) := fdf dAb_278.2.2.2.2.2.2.2.2.1
theorem dL_has_14 : decode cL_has 14 = .ok (.lconst 0, 1) := fdf dAb_278.2.2.2.2.2.2.2.2.2.1
theorem dL_has_15 : decode cL_has 15 = .ok (.putfield 13, 3) := fdf dAb_278.2.2.2.2.2.2.2.2.2.2.1
theorem dL_has_18 : decode cL_has 18 = .ok (.goto 11, 3) := fdf dAb_278.2.2.2.2.2.2.2.2.2.2.2.1
theorem dL_has_21 : decode cL_has 21 = .ok (.astore 4, 2) := fdf dAb_278.2.2.2.2.2.2.2.2.2.2.2.2.1
theorem dL_has_23 : decode cL_has 23 = .ok (.iconst 1, 1) := fdf dAb_278.2.2.2.2.2.2.2.2.2.2.2.2.2.1
theorem dL_has_24 : decode cL_has 24 = .ok (.ireturn, 1) := fdf dAb_278.2.2.2.2.2.2.2.2.2.2.2.2.2.2.1
theorem dL_has_25 : decode cL_has 25 = .ok (.astore 4, 2) := fdf dAb_278.2.2.2.2.2.2.2.2.2.2.2.2.2.2.2
theorem dAb_279 : fdq cL_has 27 (.iconst 2) 1 = true ∧ fdq cL_has 28 (.ireturn) 1 = true ∧ fdq cL_has 29 (.iconst 0) 1 = true ∧ fdq cL_has 30 (.ireturn) 1 = true ∧ fdq cL_often 0 (.aload_n 3) 1 = true ∧ fdq cL_often 1 (.aload_n 0) 1 = true ∧ fdq cL_often 2 (.iload_n 1) 1 = true ∧ fdq cL_often 3 (.iload_n 2) 1 = true ∧ fdq cL_often 4 (.invokevirtual 69) 3 = true ∧ fdq cL_often 7 (.i2l) 1 = true ∧ fdq cL_often 8 (.putfield 13) 3 = true ∧ fdq cL_often 11 (.goto 11) 3 = true ∧ fdq cL_often 14 (.astore 4) 2 = true ∧ fdq cL_often 16 (.iconst 1) 1 = true ∧ fdq cL_often 17 (.ireturn) 1 = true ∧ fdq cL_often 18 (.astore 4) 2 = true := by decide +kernel
theorem dL_has_27 : decode cL_has 27 = .ok (.iconst 2, 1) := fdf dAb_279.1
theorem dL_has_28 : decode cL_has 28 = .ok (.ireturn, 1) := fdf dAb_279.2.1
theorem dL_has_29 : decode cL_has 29 = .ok (.iconst 0, 1) := fdf dAb_279.2.2.1
theorem dL_has_30 : decode cL_has 30 = .ok (.ireturn, 1) := fdf dAb_279.2.2.2.1
theorem dL_often_0 : decode cL_often 0 = .ok (.aload_n 3, 1) := fdf dAb_279.2.2.2.2.1
theorem dL_often_1 : decode cL_often 1 = .ok (.aload_n 0, 1) := fdf dAb_279.2.2.2.2.2.1
theorem dL_often_2 : decode cL_often 2 = .ok (.iload_n 1, 1) := fdf dAb_279.2.2.2.2.2.2.1
theorem dL_often_3 : decode cL_often 3 = .ok (.iload_n 2, 1) := fdf dAb_279.2.2.2.2.2.2.2.1
theorem dL_often_4 : decode cL_often 4 = .ok (.invokevirtual 69, 3) := fdf dAb_279.2.2.2.2.2.2.2.2.1
theorem dL_often_7 : decode cL_often 7 = .ok (.i2l, 1) := fdf dAb_279.2.2.2.2.2.2.2.2.2.1
theorem dL_often_8 : decode cL_often 8 = .ok (.putfield 13, 3) := fdf dAb_279.2.2.2.2.2.2.2.2.2.2.1
theorem dL_often_11 : decode cL_often 11 = .ok (.goto 11, 3) := fdf dAb_279.2.2.2.2.2.2.2.2.2.2.2.1
theorem dL_often_14 : decode cL_often 14 = .ok (.astore 4, 2) := fdf dAb_279.2.2.2.2.2.2.2.2.2.2.2.2.1
theorem dL_often_16 : decode cL_often 16 = .ok (.iconst 1, 1) := fdf dAb_279.2.2.2.2.2.2.2.2.2.2.2.2.2.1
theorem dL_often_17 : decode cL_often 17 = .ok (.ireturn, 1) := fdf dAb_279.2.2.2.2.2.2.2.2.2.2.2.2.2.2.1
theorem dL_often_18 : decode cL_often 18 = .ok (.astore 4, 2) := fdf dAb_279.2.2.2.2.2.2.2.2.2.2.2.2.2.2.2
theorem dAb_280 : fdq cL_often 20 (.iconst 2) 1 = true ∧ fdq cL_often 21 (.ireturn) 1 = true ∧ fdq cL_often 22 (.iconst 0) 1 = true ∧ fdq cL_often 23 (.ireturn) 1 = true ∧ fdq cL_hasAll 0 (.aload_n 3) 1 = true ∧ fdq cL_hasAll 1 (.aload_n 0) 1 = true ∧ fdq cL_hasAll 2 (.iload_n 1) 1 = true ∧ fdq cL_hasAll 3 (.iload_n 2) 1 = true ∧ fdq cL_hasAll 4 (.invokevirtual 72) 3 = true ∧ fdq cL_hasAll 7 (.ifCond .eq 7) 3 = true ∧ fdq cL_hasAll 10 (.lconst 1) 1 = true ∧ fdq cL_hasAll 11 (.goto 4) 3 = true ∧ fdq cL_hasAll 14 (.lconst 0) 1 = true ∧ fdq cL_hasAll 15 (.putfield 13) 3 = true ∧ fdq cL_hasAll 18 (.goto 7) 3 = true ∧ fdq cL_hasAll 21 (.astore 4) 2 = true := by decide +kernel
theorem dL_often_20 : decode cL_often 20 = .ok (.iconst 2, 1) := fdf dAb_280.1
theorem dL_often_21 : decode cL_often 21 = .ok (.ireturn, 1) := fdf dAb_280.2.1
theorem dL_often_22 : decode cL_often 22 = .ok (.iconst 0, 1) := fdf dAb_280.2.2.1
theorem dL_often_23 : decode cL_often 23 = .ok (.ireturn, 1) := fdf dAb_280.2.2.2.1
theorem dL_hasAll_0 : decode cL_hasAll 0 = .ok (.aload_n 3, 1) := fdf dAb_280.2.2.2.2.1
theorem dL_hasAll_1 : decode cL_hasAll 1 = .ok (.aload_n 0, 1) := fdf dAb_280.2.2.2.2.2.1
theorem dL_hasAll_2 : decode cL_hasAll 2 = .ok (.iload_n 1, 1) := fdf dAb_280.2.2.2.2.2.2.1
theorem dL_hasAll_3 : decode cL_hasAll 3 = .ok (.iload_n 2, 1) := fdf dAb_280.2.2.2.2.2.2.2.1
theorem dL_hasAll_4 : decode cL_hasAll 4 = .ok (.invokevirtual 72, 3) := fdf dAb_280.2.2.2.2.2.2.2.2.1
theorem dL_hasAll_7 : decode cL_hasAll 7 = .ok (.ifCond .eq 7, 3) := fdf dAb_280.2.2.2.2.2.2.2.2.2.1
theorem dL_hasAll_10 : decode cL_hasAll 10 = .ok (.lconst 1, 1) := fdf dAb_280.2.2.2.2.2.2.2.2.2.2.1
theorem dL_hasAll_11 : decode cL_hasAll 11 = .ok (.goto 4, 3) := fdf dAb_280.2.2.2.2.2.2.2.2.2.2.2.1
theorem dL_hasAll_14 : decode cL_hasAll 14 = .ok (.lconst 0, 1) := fdf dAb_280.2.2.2.2.2.2.2.2.2.2.2.2.1
theorem dL_hasAll_15 : decode cL_hasAll 15 = .ok (.putfield 13, 3) := fdf dAb_280.2.2.2.2.2.2.2.2.2.2.2.2.2.1
theorem dL_hasAll_18 : decode cL_hasAll 18 = .ok (.goto 7, 3) := fdf dAb_280.2.2.2.2.2.2.2.2.2.2.2.2.2.2.1
theorem dL_hasAll_21 : decode cL_hasAll 21 = .ok (.astore 4, 2) := fdf dAb_280.2.2.2.2.2.2.2.2.2.2.2.2.2.2.2
theorem dAb_281 : fdq cL_hasAll 23 (.iconst 1) 1 = true ∧ fdq cL_hasAll 24 (.ireturn) 1 = true ∧ fdq cL_hasAll 25 (.iconst 0) 1 = true ∧ fdq cL_hasAll 26 (.ireturn) 1 = true ∧ fdq cL_areApart 0 (.aload_n 3) 1 = true ∧ fdq cL_areApart 1 (.aload_n 0) 1 = true ∧ fdq cL_areApart 2 (.iload_n 1) 1 = true ∧ fdq cL_areApart 3 (.iload_n 2) 1 = true ∧ fdq cL_areApart 4 (.invokevirtual 75) 3 = true ∧ fdq cL_areApart 7 (.ifCond .eq 7) 3 = true ∧ fdq cL_areApart 10 (.lconst 1) 1 = true ∧ fdq cL_areApart 11 (.goto 4) 3 = true ∧ fdq cL_areApart 14 (.lconst 0) 1 = true ∧ fdq cL_areApart 15 (.putfield 13) 3 = true ∧ fdq cL_areApart 18 (.goto 7) 3 = true ∧ fdq cL_areApart 21 (.astore 4) 2 = true := by decide +kernel
theorem dL_hasAll_23 : decode cL_hasAll 23 = .ok (.iconst 1, 1) := fdf dAb_281.1
theorem dL_hasAll_24 : decode cL_hasAll 24 = .ok (.ireturn, 1) := fdf dAb_281.2.1
theorem dL_hasAll_25 : decode cL_hasAll 25 = .ok (.iconst 0, 1) := fdf dAb_281.2.2.1
theorem dL_hasAll_26 : decode cL_hasAll 26 = .ok (.ireturn, 1) := fdf dAb_281.2.2.2.1
theorem dL_areApart_0 : decode cL_areApart 0 = .ok (.aload_n 3, 1) := fdf dAb_281.2.2.2.2.1
theorem dL_areApart_1 : decode cL_areApart 1 = .ok (.aload_n 0, 1) := fdf dAb_281.2.2.2.2.2.1
theorem dL_areApart_2 : decode cL_areApart 2 = .ok (.iload_n 1, 1) := fdf dAb_281.2.2.2.2.2.2.1
theorem dL_areApart_3 : decode cL_areApart 3 = .ok (.iload_n 2, 1) := fdf dAb_281.2.2.2.2.2.2.2.1
theorem dL_areApart_4 : decode cL_areApart 4 = .ok (.invokevirtual 75, 3) := fdf dAb_281.2.2.2.2.2.2.2.2.1
theorem dL_areApart_7 : decode cL_areApart 7 = .ok (.ifCond .eq 7, 3) := fdf dAb_281.2.2.2.2.2.2.2.2.2.1
theorem dL_areApart_10 : decode cL_areApart 10 = .ok (.lconst 1, 1) := fdf dAb_281.2.2.2.2.2.2.2.2.2.2.1
theorem dL_areApart_11 : decode cL_areApart 11 = .ok (.goto 4, 3) := fdf dAb_281.2.2.2.2.2.2.2.2.2.2.2.1
theorem dL_areApart_14 : decode cL_areApart 14 = .ok (.lconst 0, 1) := fdf dAb_281.2.2.2.2.2.2.2.2.2.2.2.2.1
theorem dL_areApart_15 : decode cL_areApart 15 = .ok (.putfield 13, 3) := fdf dAb_281.2.2.2.2.2.2.2.2.2.2.2.2.2.1
theorem dL_areApart_18 : decode cL_areApart 18 = .ok (.goto 7, 3) := fdf dAb_281.2.2.2.2.2.2.2.2.2.2.2.2.2.2.1
theorem dL_areApart_21 : decode cL_areApart 21 = .ok (.astore 4, 2) := fdf dAb_281.2.2.2.2.2.2.2.2.2.2.2.2.2.2.2
theorem dAb_282 : fdq cL_areApart 23 (.iconst 1) 1 = true ∧ fdq cL_areApart 24 (.ireturn) 1 = true ∧ fdq cL_areApart 25 (.iconst 0) 1 = true ∧ fdq cL_areApart 26 (.ireturn) 1 = true ∧ fdq cL_indexOfAll 0 (.aload_n 3) 1 = true ∧ fdq cL_indexOfAll 1 (.aload_n 0) 1 = true ∧ fdq cL_indexOfAll 2 (.iload_n 1) 1 = true ∧ fdq cL_indexOfAll 3 (.iload_n 2) 1 = true ∧ fdq cL_indexOfAll 4 (.invokevirtual 78) 3 = true ∧ fdq cL_indexOfAll 7 (.i2l) 1 = true ∧ fdq cL_indexOfAll 8 (.putfield 13) 3 = true ∧ fdq cL_indexOfAll 11 (.goto 7) 3 = true ∧ fdq cL_indexOfAll 14 (.astore 4) 2 = true ∧ fdq cL_indexOfAll 16 (.iconst 1) 1 = true ∧ fdq cL_indexOfAll 17 (.ireturn) 1 = true ∧ fdq cL_indexOfAll 18 (.iconst 0) 1 = true := by decide +kernel
theorem dL_areApart_23 : decode cL_areApart 23 = .ok (.iconst 1, 1) := fdf dAb_282.1
theorem dL_areApart_24 : decode cL_areApart 24 = .ok (.ireturn, 1) := fdf dAb_282.2.1
theorem dL_areApart_25 : decode cL_areApart 25 = .ok (.iconst 0, 1) := fdf dAb_282.2.2.1
theorem dL_areApart_26 : decode cL_areApart 26 = .ok (.ireturn, 1) := fdf dAb_282.2.2.2.1
theorem dL_indexOfAll_0 : decode cL_indexOfAll 0 = .ok (.aload_n 3, 1) := fdf dAb_282.2.2.2.2.1
theorem dL_indexOfAll_1 : decode cL_indexOfAll 1 = .ok (.aload_n 0, 1) := fdf dAb_282.2.2.2.2.2.1
theorem dL_indexOfAll_2 : decode cL_indexOfAll 2 = .ok (.iload_n 1, 1) := fdf dAb_282.2.2.2.2.2.2.1
theorem dL_indexOfAll_3 : decode cL_indexOfAll 3 = .ok (.iload_n 2, 1) := fdf dAb_282.2.2.2.2.2.2.2.1
theorem dL_indexOfAll_4 : decode cL_indexOfAll 4 = .ok (.invokevirtual 78, 3) := fdf dAb_282.2.2.2.2.2.2.2.2.1
theorem dL_indexOfAll_7 : decode cL_indexOfAll 7 = .ok (.i2l, 1) := fdf dAb_282.2.2.2.2.2.2.2.2.2.1
theorem dL_indexOfAll_8 : decode cL_indexOfAll 8 = .ok (.putfield 13, 3) := fdf dAb_282.2.2.2.2.2.2.2.2.2.2.1
theorem dL_indexOfAll_11 : decode cL_indexOfAll 11 = .ok (.goto 7, 3) := fdf dAb_282.2.2.2.2.2.2.2.2.2.2.2.1
theorem dL_indexOfAll_14 : decode cL_indexOfAll 14 = .ok (.astore 4, 2) := fdf dAb_282.2.2.2.2.2.2.2.2.2.2.2.2.1
theorem dL_indexOfAll_16 : decode cL_indexOfAll 16 = .ok (.iconst 1, 1) := fdf dAb_282.2.2.2.2.2.2.2.2.2.2.2.2.2.1
theorem dL_indexOfAll_17 : decode cL_indexOfAll 17 = .ok (.ireturn, 1) := fdf dAb_282.2.2.2.2.2.2.2.2.2.2.2.2.2.2.1
theorem dL_indexOfAll_18 : decode cL_indexOfAll 18 = .ok (.iconst 0, 1) := fdf dAb_282.2.2.2.2.2.2.2.2.2.2.2.2.2.2.2
theorem dAb_283 : fdq cL_indexOfAll 19 (.ireturn) 1 = true ∧ fdq cL_areEqual 0 (.aload_n 3) 1 = true ∧ fdq cL_areEqual 1 (.aload_n 0) 1 = true ∧ fdq cL_areEqual 2 (.iload_n 1) 1 = true ∧ fdq cL_areEqual 3 (.iload_n 2) 1 = true ∧ fdq cL_areEqual 4 (.invokevirtual 81) 3 = true ∧ fdq cL_areEqual 7 (.ifCond .eq 7) 3 = true ∧ fdq cL_areEqual 10 (.lconst 1) 1 = true ∧ fdq cL_areEqual 11 (.goto 4) 3 = true ∧ fdq cL_areEqual 14 (.lconst 0) 1 = true ∧ fdq cL_areEqual 15 (.putfield 13) 3 = true ∧ fdq cL_areEqual 18 (.goto 7) 3 = true ∧ fdq cL_areEqual 21 (.astore 4) 2 = true ∧ fdq cL_areEqual 23 (.iconst 1) 1 = true ∧ fdq cL_areEqual 24 (.ireturn) 1 = true ∧ fdq cL_areEqual 25 (.iconst 0) 1 = true := by decide +kernel
theorem dL_indexOfAll_19 : decode cL_indexOfAll 19 = .ok (.ireturn, 1) := fdf dAb_283.1
theorem dL_areEqual_0 : decode cL_areEqual 0 = .ok (.aload_n 3, 1) := fdf dAb_283.2.1
theorem dL_areEqual_1 : decode cL_areEqual 1 = .ok (.aload_n 0, 1) := fdf dAb_283.2.2.1
theorem dL_areEqual_2 : decode cL_areEqual 2 = .ok (.iload_n 1, 1) := fdf dAb_283.2.2.2.1
theorem dL_areEqual_3 : decode cL_areEqual 3 = .ok (.iload_n 2, 1) := fdf dAb_283.2.2.2.2.1
theorem dL_areEqual_4 : decode cL_areEqual 4 = .ok (.invokevirtual 81, 3) := fdf dAb_283.2.2.2.2.2.1
theorem dL_areEqual_7 : decode cL_areEqual 7 = .ok (.ifCond .eq 7, 3) := fdf dAb_283.2.2.2.2.2.2.1
theorem dL_areEqual_10 : decode cL_areEqual 10 = .ok (.lconst 1, 1) := fdf dAb_283.2.2.2.2.2.2.2.1
theorem dL_areEqual_11 : decode cL_areEqual 11 = .ok (.goto 4, 3) := fdf dAb_283.2.2.2.2.2.2.2.2.1
theorem dL_areEqual_14 : decode cL_areEqual 14 = .ok (.lconst 0, 1) := fdf dAb_283.2.2.2.2.2.2.2.2.2.1
theorem dL_areEqual_15 : decode cL_areEqual 15 = .ok (.putfield 13, 3) := fdf dAb_283.2.2.2.2.2.2.2.2.2.2.1
theorem dL_areEqual_18 : decode cL_areEqual 18 = .ok (.goto 7, 3) := fdf dAb_283.2.2.2.2.2.2.2.2.2.2.2.1
theorem dL_areEqual_21 : decode cL_areEqual 21 = .ok (.astore 4, 2) := fdf dAb_283.2.2.2.2.2.2.2.2.2.2.2.2.1
theorem dL_areEqual_23 : decode cL_areEqual 23 = .ok (.iconst 1, 1) := fdf dAb_283.2.2.2.2.2.2.2.2.2.2.2.2.2.1
theorem dL_areEqual_24 : decode cL_areEqual 24 = .ok (.ireturn, 1) := fdf dAb_283.2.2.2.2.2.2.2.2.2.2.2.2.2.2.1
theorem dL_areEqual_25 : decode cL_areEqual 25 = .ok (.iconst 0, 1) := fdf dAb_283.2.2.2.2.2.2.2.2.2.2.2.2.2.2.2
theorem dAb_284 : fdq cL_areEqual 26 (.ireturn) 1 = true ∧ fdq cL_code 0 (.aload_n 2) 1 = true ∧ fdq cL_code 1 (.aload_n 0) 1 = true ∧ fdq cL_code 2 (.iload_n 1) 1 = true ∧ fdq cL_code 3 (.invokevirtual 84) 3 = true ∧ fdq cL_code 6 (.i2l) 1 = true ∧ fdq cL_code 7 (.putfield 13) 3 = true ∧ fdq cL_code 10 (.goto 6) 3 = true ∧ fdq cL_code 13 (.astore_n 3) 1 = true ∧ fdq cL_code 14 (.iconst 1) 1 = true ∧ fdq cL_code 15 (.ireturn) 1 = true ∧ fdq cL_code 16 (.iconst 0) 1 = true ∧ fdq cL_code 17 (.ireturn) 1 = true ∧ fdq cL_walk 0 (.aload 5) 2 = true ∧ fdq cL_walk 2 (.aload_n 0) 1 = true ∧ fdq cL_walk 3 (.iload_n 1) 1 = true := by decide +kernel
theorem dL_areEqual_26 : decode cL_areEqual 26 = .ok (.ireturn, 1) := fdf dAb_284.1
theorem dL_code_0 : decode cL_code 0 = .ok (.aload_n 2, 1) := fdf dAb_284.2.1
theorem dL_code_1 : decode cL_code 1 = .ok (.aload_n 0, 1) := fdf dAb_284.2.2.1
theorem dL_code_2 : decode cL_code 2 = .ok (.iload_n 1, 1) := fdf dAb_284.2.2.2.1
theorem dL_code_3 : decode cL_code 3 = .ok (.invokevirtual 84, 3) := fdf dAb_284.2.2.2.2.1
theorem dL_code_6 : decode cL_code 6 = .ok (.i2l, 1) := fdf dAb_284.2.2.2.2.2.1
theorem dL_code_7 : decode cL_code 7 = .ok (.putfield 13, 3) := fdf dAb_284.2.2.2.2.2.2.1
theorem dL_code_10 : decode cL_code 10 = .ok (.goto 6, 3) := fdf dAb_284.2.2.2.2.2.2.2.1
theorem dL_code_13 : decode cL_code 13 = .ok (.astore_n 3, 1) := fdf dAb_284.2.2.2.2.2.2.2.2.1
theorem dL_code_14 : decode cL_code 14 = .ok (.iconst 1, 1) := fdf dAb_284.2.2.2.2.2.2.2.2.2.1
theorem dL_code_15 : decode cL_code 15 = .ok (.ireturn, 1) := fdf dAb_284.2.2.2.2.2.2.2.2.2.2.1
theorem dL_code_16 : decode cL_code 16 = .ok (.iconst 0, 1) := fdf dAb_284.2.2.2.2.2.2.2.2.2.2.2.1
theorem dL_code_17 : decode cL_code 17 = .ok (.ireturn, 1) := fdf dAb_284.2.2.2.2.2.2.2.2.2.2.2.2.1
theorem dL_walk_0 : decode cL_walk 0 = .ok (.aload 5, 2) := fdf dAb_284.2.2.2.2.2.2.2.2.2.2.2.2.2.1
theorem dL_walk_2 : decode cL_walk 2 = .ok (.aload_n 0, 1) := fdf dAb_284.2.2.2.2.2.2.2.2.2.2.2.2.2.2.1
theorem dL_walk_3 : decode cL_walk 3 = .ok (.iload_n 1, 1) := fdf dAb_284.2.2.2.2.2.2.2.2.2.2.2.2.2.2.2
theorem dAb_285 : fdq cL_walk 4 (.iload_n 2) 1 = true ∧ fdq cL_walk 5 (.iload_n 3) 1 = true ∧ fdq cL_walk 6 (.iload 4) 2 = true ∧ fdq cL_walk 8 (.invokevirtual 87) 3 = true ∧ fdq cL_walk 11 (.putfield 52) 3 = true ∧ fdq cL_walk 14 (.goto 11) 3 = true ∧ fdq cL_walk 17 (.astore 6) 2 = true ∧ fdq cL_walk 19 (.iconst 1) 1 = true ∧ fdq cL_walk 20 (.ireturn) 1 = true ∧ fdq cL_walk 21 (.astore 6) 2 = true ∧ fdq cL_walk 23 (.iconst 2) 1 = true ∧ fdq cL_walk 24 (.ireturn) 1 = true ∧ fdq cL_walk 25 (.iconst 0) 1 = true ∧ fdq cL_walk 26 (.ireturn) 1 = true ∧ fdq cL_sum 0 (.aload_n 2) 1 = true ∧ fdq cL_sum 1 (.aload_n 0) 1 = true := by decide +kernel
theorem dL_walk_4 : decode cL_walk 4 = .ok (.iload_n 2, 1) := fdf dAb_285.1
theorem dL_walk_5 : decode cL_walk 5 = .ok (.iload_n 3, 1) := fdf dAb_285.2.1
theorem dL_walk_6 : decode cL_walk 6 = .ok (.iload 4, 2) := fdf dAb_285.2.2.1
theorem dL_walk_8 : decode cL_walk 8 = .ok (.invokevirtual 87, 3) := fdf dAb_285.2.2.2.1
theorem dL_walk_11 : decode cL_walk 11 = .ok (.putfield 52, 3) := fdf dAb_285.2.2.2.2.1
theorem dL_walk_14 : decode cL_walk 14 = .ok (.goto 11, 3) := fdf dAb_285.2.2.2.2.2.1
theorem dL_walk_17 : decode cL_walk 17 = .ok (.astore 6, 2) := fdf dAb_285.2.2.2.2.2.2.1
theorem dL_walk_19 : decode cL_walk 19 = .ok (.iconst 1, 1) := fdf dAb_285.2.2.2.2.2.2.2.1
theorem dL_walk_20 : decode cL_walk 20 = .ok (.ireturn, 1) := fdf dAb_285.2.2.2.2.2.2.2.2.1
theorem dL_walk_21 : decode cL_walk 21 = .ok (.astore 6, 2) := fdf dAb_285.2.2.2.2.2.2.2.2.2.1
theorem dL_walk_23 : decode cL_walk 23 = .ok (.iconst 2, 1) := fdf dAb_285.2.2.2.2.2.2.2.2.2.2.1
theorem dL_walk_24 : decode cL_walk 24 = .ok (.ireturn, 1) := fdf dAb_285.2.2.2.2.2.2.2.2.2.2.2.1
theorem dL_walk_25 : decode cL_walk 25 = .ok (.iconst 0, 1) := fdf dAb_285.2.2.2.2.2.2.2.2.2.2.2.2.1
theorem dL_walk_26 : decode cL_walk 26 = .ok (.ireturn, 1) := fdf dAb_285.2.2.2.2.2.2.2.2.2.2.2.2.2.1
theorem dL_sum_0 : decode cL_sum 0 = .ok (.aload_n 2, 1) := fdf dAb_285.2.2.2.2.2.2.2.2.2.2.2.2.2.2.1
theorem dL_sum_1 : decode cL_sum 1 = .ok (.aload_n 0, 1) := fdf dAb_285.2.2.2.2.2.2.2.2.2.2.2.2.2.2.2
theorem dAb_286 : fdq cL_sum 2 (.iload_n 1) 1 = true ∧ fdq cL_sum 3 (.invokevirtual 91) 3 = true ∧ fdq cL_sum 6 (.i2l) 1 = true ∧ fdq cL_sum 7 (.putfield 13) 3 = true ∧ fdq cL_sum 10 (.goto 6) 3 = true ∧ fdq cL_sum 13 (.astore_n 3) 1 = true ∧ fdq cL_sum 14 (.iconst 1) 1 = true ∧ fdq cL_sum 15 (.ireturn) 1 = true ∧ fdq cL_sum 16 (.iconst 0) 1 = true ∧ fdq cL_sum 17 (.ireturn) 1 = true ∧ fdq cL_walkSet 0 (.aload 6) 2 = true ∧ fdq cL_walkSet 2 (.aload_n 0) 1 = true ∧ fdq cL_walkSet 3 (.iload_n 1) 1 = true ∧ fdq cL_walkSet 4 (.iload_n 2) 1 = true ∧ fdq cL_walkSet 5 (.iload_n 3) 1 = true ∧ fdq cL_walkSet 6 (.iload 4) 2 = true := by decide +kernel
theorem dL_sum_2 : decode cL_sum 2 = .ok (.iload_n 1, 1) := fdf dAb_286.1
theorem dL_sum_3 : decode cL_sum 3 = .ok (.invokevirtual 91, 3) := fdf dAb_286.2.1
theorem dL_sum_6 : decode cL_sum 6 = .ok (.i2l, 1) := fdf dAb_286.2.2.1
theorem dL_sum_7 : decode cL_sum 7 = .ok (.putfield 13, 3) := fdf dAb_286.2.2.2.1
theorem dL_sum_10 : decode cL_sum 10 = .ok (.goto 6, 3) := fdf dAb_286.2.2.2.2.1
theorem dL_sum_13 : decode cL_sum 13 = .ok (.astore_n 3, 1) := fdf dAb_286.2.2.2.2.2.1
theorem dL_sum_14 : decode cL_sum 14 = .ok (.iconst 1, 1) := fdf dAb_286.2.2.2.2.2.2.1
theorem dL_sum_15 : decode cL_sum 15 = .ok (.ireturn, 1) := fdf dAb_286.2.2.2.2.2.2.2.1
theorem dL_sum_16 : decode cL_sum 16 = .ok (.iconst 0, 1) := fdf dAb_286.2.2.2.2.2.2.2.2.1
theorem dL_sum_17 : decode cL_sum 17 = .ok (.ireturn, 1) := fdf dAb_286.2.2.2.2.2.2.2.2.2.1
theorem dL_walkSet_0 : decode cL_walkSet 0 = .ok (.aload 6, 2) := fdf dAb_286.2.2.2.2.2.2.2.2.2.2.1
theorem dL_walkSet_2 : decode cL_walkSet 2 = .ok (.aload_n 0, 1) := fdf dAb_286.2.2.2.2.2.2.2.2.2.2.2.1
theorem dL_walkSet_3 : decode cL_walkSet 3 = .ok (.iload_n 1, 1) := fdf dAb_286.2.2.2.2.2.2.2.2.2.2.2.2.1
theorem dL_walkSet_4 : decode cL_walkSet 4 = .ok (.iload_n 2, 1) := fdf dAb_286.2.2.2.2.2.2.2.2.2.2.2.2.2.1
theorem dL_walkSet_5 : decode cL_walkSet 5 = .ok (.iload_n 3, 1) := fdf dAb_286.2.2.2.2.2.2.2.2.2.2.2.2.2.2.1
theorem dL_walkSet_6 : decode cL_walkSet 6 = .ok (.iload 4, 2) := fdf dAb_286.2.2.2.2.2.2.2.2.2.2.2.2.2.2.2
theorem dAb_287 : fdq cL_walkSet 8 (.iload 5) 2 = true ∧ fdq cL_walkSet 10 (.invokevirtual 94) 3 = true ∧ fdq cL_walkSet 13 (.i2l) 1 = true ∧ fdq cL_walkSet 14 (.putfield 13) 3 = true ∧ fdq cL_walkSet 17 (.goto 11) 3 = true ∧ fdq cL_walkSet 20 (.astore 7) 2 = true ∧ fdq cL_walkSet 22 (.iconst 1) 1 = true ∧ fdq cL_walkSet 23 (.ireturn) 1 = true ∧ fdq cL_walkSet 24 (.astore 7) 2 = true ∧ fdq cL_walkSet 26 (.iconst 2) 1 = true ∧ fdq cL_walkSet 27 (.ireturn) 1 = true ∧ fdq cL_walkSet 28 (.iconst 0) 1 = true ∧ fdq cL_walkSet 29 (.ireturn) 1 = true ∧ fdq cL_replaceAll 0 (.aload 4) 2 = true ∧ fdq cL_replaceAll 2 (.aload_n 0) 1 = true ∧ fdq cL_replaceAll 3 (.iload_n 1) 1 = true := by decide +kernel
theorem dL_walkSet_8 : decode cL_walkSet 8 = .ok (.iload 5, 2) := fdf dAb_287.1
theorem dL_walkSet_10 : decode cL_walkSet 10 = .ok (.invokevirtual 94, 3) := fdf dAb_287.2.1
theorem dL_walkSet_13 : decode cL_walkSet 13 = .ok (.i2l, 1) := fdf dAb_287.2.2.1
theorem dL_walkSet_14 : decode cL_walkSet 14 = .ok (.putfield 13, 3) := fdf dAb_287.2.2.2.1
theorem dL_walkSet_17 : decode cL_walkSet 17 = .ok (.goto 11, 3) := fdf dAb_287.2.2.2.2.1
theorem dL_walkSet_20 : decode cL_walkSet 20 = .ok (.astore 7, 2) := fdf dAb_287.2.2.2.2.2.1
theorem dL_walkSet_22 : decode cL_walkSet 22 = .ok (.iconst 1, 1) := fdf dAb_287.2.2.2.2.2.2.1
theorem dL_walkSet_23 : decode cL_walkSet 23 = .ok (.ireturn, 1) := fdf dAb_287.2.2.2.2.2.2.2.1
theorem dL_walkSet_24 : decode cL_walkSet 24 = .ok (.astore 7, 2) := fdf dAb_287.2.2.2.2.2.2.2.2.1
theorem dL_walkSet_26 : decode cL_walkSet 26 = .ok (.iconst 2, 1) := fdf dAb_287.2.2.2.2.2.2.2.2.2.1
theorem dL_walkSet_27 : decode cL_walkSet 27 = .ok (.ireturn, 1) := fdf dAb_287.2.2.2.2.2.2.2.2.2.2.1
theorem dL_walkSet_28 : decode cL_walkSet 28 = .ok (.iconst 0, 1) := fdf dAb_287.2.2.2.2.2.2.2.2.2.2.2.1
theorem dL_walkSet_29 : decode cL_walkSet 29 = .ok (.ireturn, 1) := fdf dAb_287.2.2.2.2.2.2.2.2.2.2.2.2.1
theorem dL_replaceAll_0 : decode cL_replaceAll 0 = .ok (.aload 4, 2) := fdf dAb_287.2.2.2.2.2.2.2.2.2.2.2.2.2.1
theorem dL_replaceAll_2 : decode cL_replaceAll 2 = .ok (.aload_n 0, 1) := fdf dAb_287.2.2.2.2.2.2.2.2.2.2.2.2.2.2.1
theorem dL_replaceAll_3 : decode cL_replaceAll 3 = .ok (.iload_n 1, 1) := fdf dAb_287.2.2.2.2.2.2.2.2.2.2.2.2.2.2.2
theorem dAb_288 : fdq cL_replaceAll 4 (.iload_n 2) 1 = true ∧ fdq cL_replaceAll 5 (.iload_n 3) 1 = true ∧ fdq cL_replaceAll 6 (.invokevirtual 98) 3 = true ∧ fdq cL_replaceAll 9 (.i2l) 1 = true ∧ fdq cL_replaceAll 10 (.putfield 13) 3 = true ∧ fdq cL_replaceAll 13 (.goto 11) 3 = true ∧ fdq cL_replaceAll 16 (.astore 5) 2 = true ∧ fdq cL_replaceAll 18 (.iconst 1) 1 = true ∧ fdq cL_replaceAll 19 (.ireturn) 1 = true ∧ fdq cL_replaceAll 20 (.astore 5) 2 = true ∧ fdq cL_replaceAll 22 (.iconst 2) 1 = true ∧ fdq cL_replaceAll 23 (.ireturn) 1 = true ∧ fdq cL_replaceAll 24 (.iconst 0) 1 = true ∧ fdq cL_replaceAll 25 (.ireturn) 1 = true ∧ fdq cL_replaceOld 0 (.aload 4) 2 = true ∧ fdq cL_replaceOld 2 (.aload_n 0) 1 = true := by decide +kernel
theorem dL_replaceAll_4 : decode cL_replaceAll 4 = .ok (.iload_n 2, 1) := fdf dAb_288.1
theorem dL_replaceAll_5 : decode cL_replaceAll 5 = .ok (.iload_n 3, 1) := fdf dAb_288.2.1
theorem dL_replaceAll_6 : decode cL_replaceAll 6 = .ok (.invokevirtual 98, 3) := fdf dAb_288.2.2.1
theorem dL_replaceAll_9 : decode cL_replaceAll 9 = .ok (.i2l, 1) := fdf dAb_288.2.2.2.1
theorem dL_replaceAll_10 : decode cL_replaceAll 10 = .ok (.putfield 13, 3) := fdf dAb_288.2.2.2.2.1
theorem dL_replaceAll_13 : decode cL_replaceAll 13 = .ok (.goto 11, 3) := fdf dAb_288.2.2.2.2.2.1
theorem dL_replaceAll_16 : decode cL_replaceAll 16 = .ok (.astore 5, 2) := fdf dAb_288.2.2.2.2.2.2.1
theorem dL_replaceAll_18 : decode cL_replaceAll 18 = .ok (.iconst 1, 1) := fdf dAb_288.2.2.2.2.2.2.2.1
theorem dL_replaceAll_19 : decode cL_replaceAll 19 = .ok (.ireturn, 1) := fdf dAb_288.2.2.2.2.2.2.2.2.1
theorem dL_replaceAll_20 : decode cL_replaceAll 20 = .ok (.astore 5, 2) := fdf dAb_288.2.2.2.2.2.2.2.2.2.1
theorem dL_replaceAll_22 : decode cL_replaceAll 22 = .ok (.iconst 2, 1) := fdf dAb_288.2.2.2.2.2.2.2.2.2.2.1
theorem dL_replaceAll_23 : decode cL_replaceAll 23 = .ok (.ireturn, 1) := fdf dAb_288.2.2.2.2.2.2.2.2.2.2.2.1
theorem dL_replaceAll_24 : decode cL_replaceAll 24 = .ok (.iconst 0, 1) := fdf dAb_288.2.2.2.2.2.2.2.2.2.2.2.2.1
theorem dL_replaceAll_25 : decode cL_replaceAll 25 = .ok (.ireturn, 1) := fdf dAb_288.2.2.2.2.2.2.2.2.2.2.2.2.2.1
theorem dL_replaceOld_0 : decode cL_replaceOld 0 = .ok (.aload 4, 2) := fdf dAb_288.2.2.2.2.2.2.2.2.2.2.2.2.2.2.1
theorem dL_replaceOld_2 : decode cL_replaceOld 2 = .ok (.aload_n 0, 1) := fdf dAb_288.2.2.2.2.2.2.2.2.2.2.2.2.2.2.2
theorem dAb_289 : fdq cL_replaceOld 3 (.iload_n 1) 1 = true ∧ fdq cL_replaceOld 4 (.iload_n 2) 1 = true ∧ fdq cL_replaceOld 5 (.iload_n 3) 1 = true ∧ fdq cL_replaceOld 6 (.invokevirtual 101) 3 = true ∧ fdq cL_replaceOld 9 (.i2l) 1 = true ∧ fdq cL_replaceOld 10 (.putfield 13) 3 = true ∧ fdq cL_replaceOld 13 (.goto 11) 3 = true ∧ fdq cL_replaceOld 16 (.astore 5) 2 = true ∧ fdq cL_replaceOld 18 (.iconst 1) 1 = true ∧ fdq cL_replaceOld 19 (.ireturn) 1 = true ∧ fdq cL_replaceOld 20 (.astore 5) 2 = true ∧ fdq cL_replaceOld 22 (.iconst 2) 1 = true ∧ fdq cL_replaceOld 23 (.ireturn) 1 = true ∧ fdq cL_replaceOld 24 (.iconst 0) 1 = true ∧ fdq cL_replaceOld 25 (.ireturn) 1 = true ∧ fdq cL_fill 0 (.aload_n 3) 1 = true := by decide +kernel
theorem dL_replaceOld_3 : decode cL_replaceOld 3 = .ok (.iload_n 1, 1) := fdf dAb_289.1
theorem dL_replaceOld_4 : decode cL_replaceOld 4 = .ok (.iload_n 2, 1) := fdf dAb_289.2.1
theorem dL_replaceOld_5 : decode cL_replaceOld 5 = .ok (.iload_n 3, 1) := fdf dAb_289.2.2.1
theorem dL_replaceOld_6 : decode cL_replaceOld 6 = .ok (.invokevirtual 101, 3) := fdf dAb_289.2.2.2.1
theorem dL_replaceOld_9 : decode cL_replaceOld 9 = .ok (.i2l, 1) := fdf dAb_289.2.2.2.2.1
theorem dL_replaceOld_10 : decode cL_replaceOld 10 = .ok (.putfield 13, 3) := fdf dAb_289.2.2.2.2.2.1
theorem dL_replaceOld_13 : decode cL_replaceOld 13 = .ok (.goto 11, 3) := fdf dAb_289.2.2.2.2.2.2.1
theorem dL_replaceOld_16 : decode cL_replaceOld 16 = .ok (.astore 5, 2) := fdf dAb_289.2.2.2.2.2.2.2.1
theorem dL_replaceOld_18 : decode cL_replaceOld 18 = .ok (.iconst 1, 1) := fdf dAb_289.2.2.2.2.2.2.2.2.1
theorem dL_replaceOld_19 : decode cL_replaceOld 19 = .ok (.ireturn, 1) := fdf dAb_289.2.2.2.2.2.2.2.2.2.1
theorem dL_replaceOld_20 : decode cL_replaceOld 20 = .ok (.astore 5, 2) := fdf dAb_289.2.2.2.2.2.2.2.2.2.2.1
theorem dL_replaceOld_22 : decode cL_replaceOld 22 = .ok (.iconst 2, 1) := fdf dAb_289.2.2.2.2.2.2.2.2.2.2.2.1
theorem dL_replaceOld_23 : decode cL_replaceOld 23 = .ok (.ireturn, 1) := fdf dAb_289.2.2.2.2.2.2.2.2.2.2.2.2.1
theorem dL_replaceOld_24 : decode cL_replaceOld 24 = .ok (.iconst 0, 1) := fdf dAb_289.2.2.2.2.2.2.2.2.2.2.2.2.2.1
theorem dL_replaceOld_25 : decode cL_replaceOld 25 = .ok (.ireturn, 1) := fdf dAb_289.2.2.2.2.2.2.2.2.2.2.2.2.2.2.1
theorem dL_fill_0 : decode cL_fill 0 = .ok (.aload_n 3, 1) := fdf dAb_289.2.2.2.2.2.2.2.2.2.2.2.2.2.2.2
theorem dAb_290 : fdq cL_fill 1 (.aload_n 0) 1 = true ∧ fdq cL_fill 2 (.iload_n 1) 1 = true ∧ fdq cL_fill 3 (.iload_n 2) 1 = true ∧ fdq cL_fill 4 (.invokevirtual 104) 3 = true ∧ fdq cL_fill 7 (.i2l) 1 = true ∧ fdq cL_fill 8 (.putfield 13) 3 = true ∧ fdq cL_fill 11 (.goto 11) 3 = true ∧ fdq cL_fill 14 (.astore 4) 2 = true ∧ fdq cL_fill 16 (.iconst 1) 1 = true ∧ fdq cL_fill 17 (.ireturn) 1 = true ∧ fdq cL_fill 18 (.astore 4) 2 = true ∧ fdq cL_fill 20 (.iconst 2) 1 = true ∧ fdq cL_fill 21 (.ireturn) 1 = true ∧ fdq cL_fill 22 (.iconst 0) 1 = true ∧ fdq cL_fill 23 (.ireturn) 1 = true ∧ fdq cL_sort 0 (.aload_n 3) 1 = true := by decide +kernel
theorem dL_fill_1 : decode cL_fill 1 = .ok (.aload_n 0, 1) := fdf dAb_290.1
theorem dL_fill_2 : decode cL_fill 2 = .ok (.iload_n 1, 1) := fdf dAb_290.2.1
theorem dL_fill_3 : decode cL_fill 3 = .ok (.iload_n 2, 1) := fdf dAb_290.2.2.1
theorem dL_fill_4 : decode cL_fill 4 = .ok (.invokevirtual 104, 3) := fdf dAb_290.2.2.2.1
theorem dL_fill_7 : decode cL_fill 7 = .ok (.i2l, 1) := fdf dAb_290.2.2.2.2.1
theorem dL_fill_8 : decode cL_fill 8 = .ok (.putfield 13, 3) := fdf dAb_290.2.2.2.2.2.1
theorem dL_fill_11 : decode cL_fill 11 = .ok (.goto 11, 3) := fdf dAb_290.2.2.2.2.2.2.1
theorem dL_fill_14 : decode cL_fill 14 = .ok (.astore 4, 2) := fdf dAb_290.2.2.2.2.2.2.2.1
theorem dL_fill_16 : decode cL_fill 16 = .ok (.iconst 1, 1) := fdf dAb_290.2.2.2.2.2.2.2.2.1
theorem dL_fill_17 : decode cL_fill 17 = .ok (.ireturn, 1) := fdf dAb_290.2.2.2.2.2.2.2.2.2.1
theorem dL_fill_18 : decode cL_fill 18 = .ok (.astore 4, 2) := fdf dAb_290.2.2.2.2.2.2.2.2.2.2.1
theorem dL_fill_20 : decode cL_fill 20 = .ok (.iconst 2, 1) := fdf dAb_290.2.2.2.2.2.2.2.2.2.2.2.1
theorem dL_fill_21 : decode cL_fill 21 = .ok (.ireturn, 1) := fdf dAb_290.2.2.2.2.2.2.2.2.2.2.2.2.1
theorem dL_fill_22 : decode cL_fill 22 = .ok (.iconst 0, 1) := fdf dAb_290.2.2.2.2.2.2.2.2.2.2.2.2.2.1
theorem dL_fill_23 : decode cL_fill 23 = .ok (.ireturn, 1) := fdf dAb_290.2.2.2.2.2.2.2.2.2.2.2.2.2.2.1
theorem dL_sort_0 : decode cL_sort 0 = .ok (.aload_n 3, 1) := fdf dAb_290.2.2.2.2.2.2.2.2.2.2.2.2.2.2.2
theorem dAb_291 : fdq cL_sort 1 (.aload_n 0) 1 = true ∧ fdq cL_sort 2 (.iload_n 1) 1 = true ∧ fdq cL_sort 3 (.iload_n 2) 1 = true ∧ fdq cL_sort 4 (.invokevirtual 107) 3 = true ∧ fdq cL_sort 7 (.i2l) 1 = true ∧ fdq cL_sort 8 (.putfield 13) 3 = true ∧ fdq cL_sort 11 (.goto 7) 3 = true ∧ fdq cL_sort 14 (.astore 4) 2 = true ∧ fdq cL_sort 16 (.iconst 1) 1 = true ∧ fdq cL_sort 17 (.ireturn) 1 = true ∧ fdq cL_sort 18 (.iconst 0) 1 = true ∧ fdq cL_sort 19 (.ireturn) 1 = true ∧ fdq cL_reverse 0 (.aload_n 2) 1 = true ∧ fdq cL_reverse 1 (.aload_n 0) 1 = true ∧ fdq cL_reverse 2 (.iload_n 1) 1 = true ∧ fdq cL_reverse 3 (.invokevirtual 111) 3 = true := by decide +kernel
theorem dL_sort_1 : decode cL_sort 1 = .ok (.aload_n 0, 1) := fdf dAb_291.1
theorem dL_sort_2 : decode cL_sort 2 = .ok (.iload_n 1, 1) := fdf dAb_291.2.1
theorem dL_sort_3 : decode cL_sort 3 = .ok (.iload_n 2, 1) := fdf dAb_291.2.2.1
theorem dL_sort_4 : decode cL_sort 4 = .ok (.invokevirtual 107, 3) := fdf dAb_291.2.2.2.1
theorem dL_sort_7 : decode cL_sort 7 = .ok (.i2l, 1) := fdf dAb_291.2.2.2.2.1
theorem dL_sort_8 : decode cL_sort 8 = .ok (.putfield 13, 3) := fdf dAb_291.2.2.2.2.2.1
theorem dL_sort_11 : decode cL_sort 11 = .ok (.goto 7, 3) := fdf dAb_291.2.2.2.2.2.2.1
theorem dL_sort_14 : decode cL_sort 14 = .ok (.astore 4, 2) := fdf dAb_291.2.2.2.2.2.2.2.1
theorem dL_sort_16 : decode cL_sort 16 = .ok (.iconst 1, 1) := fdf dAb_291.2.2.2.2.2.2.2.2.1
theorem dL_sort_17 : decode cL_sort 17 = .ok (.ireturn, 1) := fdf dAb_291.2.2.2.2.2.2.2.2.2.1
theorem dL_sort_18 : decode cL_sort 18 = .ok (.iconst 0, 1) := fdf dAb_291.2.2.2.2.2.2.2.2.2.2.1
theorem dL_sort_19 : decode cL_sort 19 = .ok (.ireturn, 1) := fdf dAb_291.2.2.2.2.2.2.2.2.2.2.2.1
theorem dL_reverse_0 : decode cL_reverse 0 = .ok (.aload_n 2, 1) := fdf dAb_291.2.2.2.2.2.2.2.2.2.2.2.2.1
theorem dL_reverse_1 : decode cL_reverse 1 = .ok (.aload_n 0, 1) := fdf dAb_291.2.2.2.2.2.2.2.2.2.2.2.2.2.1
theorem dL_reverse_2 : decode cL_reverse 2 = .ok (.iload_n 1, 1) := fdf dAb_291.2.2.2.2.2.2.2.2.2.2.2.2.2.2.1
theorem dL_reverse_3 : decode cL_reverse 3 = .ok (.invokevirtual 111, 3) := fdf dAb_291.2.2.2.2.2.2.2.2.2.2.2.2.2.2.2
theorem dAb_292 : fdq cL_reverse 6 (.i2l) 1 = true ∧ fdq cL_reverse 7 (.putfield 13) 3 = true ∧ fdq cL_reverse 10 (.goto 6) 3 = true ∧ fdq cL_reverse 13 (.astore_n 3) 1 = true ∧ fdq cL_reverse 14 (.iconst 1) 1 = true ∧ fdq cL_reverse 15 (.ireturn) 1 = true ∧ fdq cL_reverse 16 (.iconst 0) 1 = true ∧ fdq cL_reverse 17 (.ireturn) 1 = true ∧ fdq cL_rotate 0 (.aload_n 3) 1 = true ∧ fdq cL_rotate 1 (.aload_n 0) 1 = true ∧ fdq cL_rotate 2 (.iload_n 1) 1 = true ∧ fdq cL_rotate 3 (.iload_n 2) 1 = true ∧ fdq cL_rotate 4 (.invokevirtual 114) 3 = true ∧ fdq cL_rotate 7 (.i2l) 1 = true ∧ fdq cL_rotate 8 (.putfield 13) 3 = true ∧ fdq cL_rotate 11 (.goto 11) 3 = true := by decide +kernel
theorem dL_reverse_6 : decode cL_reverse 6 = .ok (.i2l, 1) := fdf dAb_292.1
theorem dL_reverse_7 : decode cL_reverse 7 = .ok (.putfield 13, 3) := fdf dAb_292.2.1
theorem dL_reverse_10 : decode cL_reverse 10 = .ok (.goto 6, 3) := fdf dAb_292.2.2.1
theorem dL_reverse_13 : decode cL_reverse 13 = .ok (.astore_n 3, 1) := fdf dAb_292.2.2.2.1
theorem dL_reverse_14 : decode cL_reverse 14 = .ok (.iconst 1, 1) := fdf dAb_292.2.2.2.2.1
theorem dL_reverse_15 : decode cL_reverse 15 = .ok (.ireturn, 1) := fdf dAb_292.2.2.2.2.2.1
theorem dL_reverse_16 : decode cL_reverse 16 = .ok (.iconst 0, 1) := fdf dAb_292.2.2.2.2.2.2.1
theorem dL_reverse_17 : decode cL_reverse 17 = .ok (.ireturn, 1) := fdf dAb_292.2.2.2.2.2.2.2.1
theorem dL_rotate_0 : decode cL_rotate 0 = .ok (.aload_n 3, 1) := fdf dAb_292.2.2.2.2.2.2.2.2.1
theorem dL_rotate_1 : decode cL_rotate 1 = .ok (.aload_n 0, 1) := fdf dAb_292.2.2.2.2.2.2.2.2.2.1
theorem dL_rotate_2 : decode cL_rotate 2 = .ok (.iload_n 1, 1) := fdf dAb_292.2.2.2.2.2.2.2.2.2.2.1
theorem dL_rotate_3 : decode cL_rotate 3 = .ok (.iload_n 2, 1) := fdf dAb_292.2.2.2.2.2.2.2.2.2.2.2.1
theorem dL_rotate_4 : decode cL_rotate 4 = .ok (.invokevirtual 114, 3) := fdf dAb_292.2.2.2.2.2.2.2.2.2.2.2.2.1
theorem dL_rotate_7 : decode cL_rotate 7 = .ok (.i2l, 1) := fdf dAb_292.2.2.2.2.2.2.2.2.2.2.2.2.2.1
theorem dL_rotate_8 : decode cL_rotate 8 = .ok (.putfield 13, 3) := fdf dAb_292.2.2.2.2.2.2.2.2.2.2.2.2.2.2.1
theorem dL_rotate_11 : decode cL_rotate 11 = .ok (.goto 11, 3) := fdf dAb_292.2.2.2.2.2.2.2.2.2.2.2.2.2.2.2
theorem dAb_293 : fdq cL_rotate 14 (.astore 4) 2 = true ∧ fdq cL_rotate 16 (.iconst 1) 1 = true ∧ fdq cL_rotate 17 (.ireturn) 1 = true ∧ fdq cL_rotate 18 (.astore 4) 2 = true ∧ fdq cL_rotate 20 (.iconst 2) 1 = true ∧ fdq cL_rotate 21 (.ireturn) 1 = true ∧ fdq cL_rotate 22 (.iconst 0) 1 = true ∧ fdq cL_rotate 23 (.ireturn) 1 = true ∧ fdq cL_swap 0 (.aload 4) 2 = true ∧ fdq cL_swap 2 (.aload_n 0) 1 = true ∧ fdq cL_swap 3 (.iload_n 1) 1 = true ∧ fdq cL_swap 4 (.iload_n 2) 1 = true ∧ fdq cL_swap 5 (.iload_n 3) 1 = true ∧ fdq cL_swap 6 (.invokevirtual 117) 3 = true ∧ fdq cL_swap 9 (.i2l) 1 = true ∧ fdq cL_swap 10 (.putfield 13) 3 = true := by decide +kernel
theorem dL_rotate_14 : decode cL_rotate 14 = .ok (.astore 4, 2) := fdf dAb_293.1
theorem dL_rotate_16 : decode cL_rotate 16 = .ok (.iconst 1, 1) := fdf dAb_293.2.1
theorem dL_rotate_17 : decode cL_rotate 17 = .ok (.ireturn, 1) := fdf dAb_293.2.2.1
theorem dL_rotate_18 : decode cL_rotate 18 = .ok (.astore 4, 2) := fdf dAb_293.2.2.2.1
theorem dL_rotate_20 : decode cL_rotate 20 = .ok (.iconst 2, 1) := fdf dAb_293.2.2.2.2.1
theorem dL_rotate_21 : decode cL_rotate 21 = .ok (.ireturn, 1) := fdf dAb_293.2.2.2.2.2.1
theorem dL_rotate_22 : decode cL_rotate 22 = .ok (.iconst 0, 1) := fdf dAb_293.2.2.2.2.2.2.1
theorem dL_rotate_23 : decode cL_rotate 23 = .ok (.ireturn, 1) := fdf dAb_293.2.2.2.2.2.2.2.1
theorem dL_swap_0 : decode cL_swap 0 = .ok (.aload 4, 2) := fdf dAb_293.2.2.2.2.2.2.2.2.1
theorem dL_swap_2 : decode cL_swap 2 = .ok (.aload_n 0, 1) := fdf dAb_293.2.2.2.2.2.2.2.2.2.1
theorem dL_swap_3 : decode cL_swap 3 = .ok (.iload_n 1, 1) := fdf dAb_293.2.2.2.2.2.2.2.2.2.2.1
theorem dL_swap_4 : decode cL_swap 4 = .ok (.iload_n 2, 1) := fdf dAb_293.2.2.2.2.2.2.2.2.2.2.2.1
theorem dL_swap_5 : decode cL_swap 5 = .ok (.iload_n 3, 1) := fdf dAb_293.2.2.2.2.2.2.2.2.2.2.2.2.1
theorem dL_swap_6 : decode cL_swap 6 = .ok (.invokevirtual 117, 3) := fdf dAb_293.2.2.2.2.2.2.2.2.2.2.2.2.2.1
theorem dL_swap_9 : decode cL_swap 9 = .ok (.i2l, 1) := fdf dAb_293.2.2.2.2.2.2.2.2.2.2.2.2.2.2.1
theorem dL_swap_10 : decode cL_swap 10 = .ok (.putfield 13, 3) := fdf dAb_293.2.2.2.2.2.2.2.2.2.2.2.2.2.2.2
theorem dAb_294 : fdq cL_swap 13 (.goto 7) 3 = true ∧ fdq cL_swap 16 (.astore 5) 2 = true ∧ fdq cL_swap 18 (.iconst 1) 1 = true ∧ fdq cL_swap 19 (.ireturn) 1 = true ∧ fdq cL_swap 20 (.iconst 0) 1 = true ∧ fdq cL_swap 21 (.ireturn) 1 = true ∧ fdq cL_add 0 (.aload_n 3) 1 = true ∧ fdq cL_add 1 (.aload_n 0) 1 = true ∧ fdq cL_add 2 (.iload_n 1) 1 = true ∧ fdq cL_add 3 (.iload_n 2) 1 = true ∧ fdq cL_add 4 (.invokevirtual 120) 3 = true ∧ fdq cL_add 7 (.i2l) 1 = true ∧ fdq cL_add 8 (.putfield 13) 3 = true ∧ fdq cL_add 11 (.goto 11) 3 = true ∧ fdq cL_add 14 (.astore 4) 2 = true ∧ fdq cL_add 16 (.iconst 1) 1 = true := by decide +kernel
theorem dL_swap_13 : decode cL_swap 13 = .ok (.goto 7, 3) := fdf dAb_294.1
theorem dL_swap_16 : decode cL_swap 16 = .ok (.astore 5, 2) := fdf dAb_294.2.1
theorem dL_swap_18 : decode cL_swap 18 = .ok (.iconst 1, 1) := fdf dAb_294.2.2.1
theorem dL_swap_19 : decode cL_swap 19 = .ok (.ireturn, 1) := fdf dAb_294.2.2.2.1
theorem dL_swap_20 : decode cL_swap 20 = .ok (.iconst 0, 1) := fdf dAb_294.2.2.2.2.1
theorem dL_swap_21 : decode cL_swap 21 = .ok (.ireturn, 1) := fdf dAb_294.2.2.2.2.2.1
theorem dL_add_0 : decode cL_add 0 = .ok (.aload_n 3, 1) := fdf dAb_294.2.2.2.2.2.2.1
theorem dL_add_1 : decode cL_add 1 = .ok (.aload_n 0, 1) := fdf dAb_294.2.2.2.2.2.2.2.1
theorem dL_add_2 : decode cL_add 2 = .ok (.iload_n 1, 1) := fdf dAb_294.2.2.2.2.2.2.2.2.1
theorem dL_add_3 : decode cL_add 3 = .ok (.iload_n 2, 1) := fdf dAb_294.2.2.2.2.2.2.2.2.2.1
theorem dL_add_4 : decode cL_add 4 = .ok (.invokevirtual 120, 3) := fdf dAb_294.2.2.2.2.2.2.2.2.2.2.1
theorem dL_add_7 : decode cL_add 7 = .ok (.i2l, 1) := fdf dAb_294.2.2.2.2.2.2.2.2.2.2.2.1
theorem dL_add_8 : decode cL_add 8 = .ok (.putfield 13, 3) := fdf dAb_294.2.2.2.2.2.2.2.2.2.2.2.2.1
theorem dL_add_11 : decode cL_add 11 = .ok (.goto 11, 3) := fdf dAb_294.2.2.2.2.2.2.2.2.2.2.2.2.2.1
theorem dL_add_14 : decode cL_add 14 = .ok (.astore 4, 2) := fdf dAb_294.2.2.2.2.2.2.2.2.2.2.2.2.2.2.1
theorem dL_add_16 : decode cL_add 16 = .ok (.iconst 1, 1) := fdf dAb_294.2.2.2.2.2.2.2.2.2.2.2.2.2.2.2
theorem dAb_295 : fdq cL_add 17 (.ireturn) 1 = true ∧ fdq cL_add 18 (.astore 4) 2 = true ∧ fdq cL_add 20 (.iconst 2) 1 = true ∧ fdq cL_add 21 (.ireturn) 1 = true ∧ fdq cL_add 22 (.iconst 0) 1 = true ∧ fdq cL_add 23 (.ireturn) 1 = true ∧ fdq cL_addAt 0 (.aload 4) 2 = true ∧ fdq cL_addAt 2 (.aload_n 0) 1 = true ∧ fdq cL_addAt 3 (.iload_n 1) 1 = true ∧ fdq cL_addAt 4 (.iload_n 2) 1 = true ∧ fdq cL_addAt 5 (.iload_n 3) 1 = true ∧ fdq cL_addAt 6 (.invokevirtual 123) 3 = true ∧ fdq cL_addAt 9 (.i2l) 1 = true ∧ fdq cL_addAt 10 (.putfield 13) 3 = true ∧ fdq cL_addAt 13 (.goto 11) 3 = true ∧ fdq cL_addAt 16 (.astore 5) 2 = true := by decide +kernel
theorem dL_add_17 : decode cL_add 17 = .ok (.ireturn, 1) := fdf dAb_295.1
theorem dL_add_18 : decode cL_add 18 = .ok (.astore 4, 2) := fdf dAb_295.2.1
theorem dL_add_20 : decode cL_add 20 = .ok (.iconst 2, 1) := fdf dAb_295.2.2.1
theorem dL_add_21 : decode cL_add 21 = .ok (.ireturn, 1) := fdf dAb_295.2.2.2.1
theorem dL_add_22 : decode cL_add 22 = .ok (.iconst 0, 1) := fdf dAb_295.2.2.2.2.1
theorem dL_add_23 : decode cL_add 23 = .ok (.ireturn, 1) := fdf dAb_295.2.2.2.2.2.1
theorem dL_addAt_0 : decode cL_addAt 0 = .ok (.aload 4, 2) := fdf dAb_295.2.2.2.2.2.2.1
theorem dL_addAt_2 : decode cL_addAt 2 = .ok (.aload_n 0, 1) := fdf dAb_295.2.2.2.2.2.2.2.1
theorem dL_addAt_3 : decode cL_addAt 3 = .ok (.iload_n 1, 1) := fdf dAb_295.2.2.2.2.2.2.2.2.1
theorem dL_addAt_4 : decode cL_addAt 4 = .ok (.iload_n 2, 1) := fdf dAb_295.2.2.2.2.2.2.2.2.2.1
theorem dL_addAt_5 : decode cL_addAt 5 = .ok (.iload_n 3, 1) := fdf dAb_295.2.2.2.2.2.2.2.2.2.2.1
theorem dL_addAt_6 : decode cL_addAt 6 = .ok (.invokevirtual 123, 3) := fdf dAb_295.2.2.2.2.2.2.2.2.2.2.2.1
theorem dL_addAt_9 : decode cL_addAt 9 = .ok (.i2l, 1) := fdf dAb_295.2.2.2.2.2.2.2.2.2.2.2.2.1
theorem dL_addAt_10 : decode cL_addAt 10 = .ok (.putfield 13, 3) := fdf dAb_295.2.2.2.2.2.2.2.2.2.2.2.2.2.1
theorem dL_addAt_13 : decode cL_addAt 13 = .ok (.goto 11, 3) := fdf dAb_295.2.2.2.2.2.2.2.2.2.2.2.2.2.2.1
theorem dL_addAt_16 : decode cL_addAt 16 = .ok (.astore 5, 2) := fdf dAb_295.2.2.2.2.2.2.2.2.2.2.2.2.2.2.2
theorem dAb_296 : fdq cL_addAt 18 (.iconst 1) 1 = true ∧ fdq cL_addAt 19 (.ireturn) 1 = true ∧ fdq cL_addAt 20 (.astore 5) 2 = true ∧ fdq cL_addAt 22 (.iconst 2) 1 = true ∧ fdq cL_addAt 23 (.ireturn) 1 = true ∧ fdq cL_addAt 24 (.iconst 0) 1 = true ∧ fdq cL_addAt 25 (.ireturn) 1 = true ∧ fdq cL_addAll 0 (.aload_n 3) 1 = true ∧ fdq cL_addAll 1 (.aload_n 0) 1 = true ∧ fdq cL_addAll 2 (.iload_n 1) 1 = true ∧ fdq cL_addAll 3 (.iload_n 2) 1 = true ∧ fdq cL_addAll 4 (.invokevirtual 126) 3 = true ∧ fdq cL_addAll 7 (.i2l) 1 = true ∧ fdq cL_addAll 8 (.putfield 13) 3 = true ∧ fdq cL_addAll 11 (.goto 7) 3 = true ∧ fdq cL_addAll 14 (.astore 4) 2 = true := by decide +kernel
theorem dL_addAt_18 : decode cL_addAt 18 = .ok (.iconst 1, 1) := fdf dAb_296.1
theorem dL_addAt_19 : decode cL_addAt 19 = .ok (.ireturn, 1) := fdf dAb_296.2.1
theorem dL_addAt_20 : decode cL_addAt 20 = .ok (.astore 5, 2) := fdf dAb_296.2.2.1
theorem dL_addAt_22 : decode cL_addAt 22 = .ok (.iconst 2, 1) := fdf dAb_296.2.2.2.1
theorem dL_addAt_23 : decode cL_addAt 23 = .ok (.ireturn, 1) := fdf dAb_296.2.2.2.2.1
theorem dL_addAt_24 : decode cL_addAt 24 = .ok (.iconst 0, 1) := fdf dAb_296.2.2.2.2.2.1
theorem dL_addAt_25 : decode cL_addAt 25 = .ok (.ireturn, 1) := fdf dAb_296.2.2.2.2.2.2.1
theorem dL_addAll_0 : decode cL_addAll 0 = .ok (.aload_n 3, 1) := fdf dAb_296.2.2.2.2.2.2.2.1
theorem dL_addAll_1 : decode cL_addAll 1 = .ok (.aload_n 0, 1) := fdf dAb_296.2.2.2.2.2.2.2.2.1
theorem dL_addAll_2 : decode cL_addAll 2 = .ok (.iload_n 1, 1) := fdf dAb_296.2.2.2.2.2.2.2.2.2.1
theorem dL_addAll_3 : decode cL_addAll 3 = .ok (.iload_n 2, 1) := fdf dAb_296.2.2.2.2.2.2.2.2.2.2.1
theorem dL_addAll_4 : decode cL_addAll 4 = .ok (.invokevirtual 126, 3) := fdf dAb_296.2.2.2.2.2.2.2.2.2.2.2.1
theorem dL_addAll_7 : decode cL_addAll 7 = .ok (.i2l, 1) := fdf dAb_296.2.2.2.2.2.2.2.2.2.2.2.2.1
theorem dL_addAll_8 : decode cL_addAll 8 = .ok (.putfield 13, 3) := fdf dAb_296.2.2.2.2.2.2.2.2.2.2.2.2.2.1
theorem dL_addAll_11 : decode cL_addAll 11 = .ok (.goto 7, 3) := fdf dAb_296.2.2.2.2.2.2.2.2.2.2.2.2.2.2.1
theorem dL_addAll_14 : decode cL_addAll 14 = .ok (.astore 4, 2) := fdf dAb_296.2.2.2.2.2.2.2.2.2.2.2.2.2.2.2
theorem dAb_297 : fdq cL_addAll 16 (.iconst 1) 1 = true ∧ fdq cL_addAll 17 (.ireturn) 1 = true ∧ fdq cL_addAll 18 (.iconst 0) 1 = true ∧ fdq cL_addAll 19 (.ireturn) 1 = true ∧ fdq cL_remove 0 (.aload_n 3) 1 = true ∧ fdq cL_remove 1 (.aload_n 0) 1 = true ∧ fdq cL_remove 2 (.iload_n 1) 1 = true ∧ fdq cL_remove 3 (.iload_n 2) 1 = true ∧ fdq cL_remove 4 (.invokevirtual 129) 3 = true ∧ fdq cL_remove 7 (.i2l) 1 = true ∧ fdq cL_remove 8 (.putfield 13) 3 = true ∧ fdq cL_remove 11 (.goto 7) 3 = true ∧ fdq cL_remove 14 (.astore 4) 2 = true ∧ fdq cL_remove 16 (.iconst 1) 1 = true ∧ fdq cL_remove 17 (.ireturn) 1 = true ∧ fdq cL_remove 18 (.iconst 0) 1 = true := by decide +kernel
theorem dL_addAll_16 : decode cL_addAll 16 = .ok (.iconst 1, 1) := fdf dAb_297.1
theorem dL_addAll_17 : decode cL_addAll 17 = .ok (.ireturn, 1) := fdf dAb_297.2.1
theorem dL_addAll_18 : decode cL_addAll 18 = .ok (.iconst 0, 1) := fdf dAb_297.2.2.1
theorem dL_addAll_19 : decode cL_addAll 19 = .ok (.ireturn, 1) := fdf dAb_297.2.2.2.1
theorem dL_remove_0 : decode cL_remove 0 = .ok (.aload_n 3, 1) := fdf dAb_297.2.2.2.2.1
theorem dL_remove_1 : decode cL_remove 1 = .ok (.aload_n 0, 1) := fdf dAb_297.2.2.2.2.2.1
theorem dL_remove_2 : decode cL_remove 2 = .ok (.iload_n 1, 1) := fdf dAb_297.2.2.2.2.2.2.1
theorem dL_remove_3 : decode cL_remove 3 = .ok (.iload_n 2, 1) := fdf dAb_297.2.2.2.2.2.2.2.1
theorem dL_remove_4 : decode cL_remove 4 = .ok (.invokevirtual 129, 3) := fdf dAb_297.2.2.2.2.2.2.2.2.1
theorem dL_remove_7 : decode cL_remove 7 = .ok (.i2l, 1) := fdf dAb_297.2.2.2.2.2.2.2.2.2.1
theorem dL_remove_8 : decode cL_remove 8 = .ok (.putfield 13, 3) := fdf dAb_297.2.2.2.2.2.2.2.2.2.2.1
theorem dL_remove_11 : decode cL_remove 11 = .ok (.goto 7, 3) := fdf dAb_297.2.2.2.2.2.2.2.2.2.2.2.1
theorem dL_remove_14 : decode cL_remove 14 = .ok (.astore 4, 2) := fdf dAb_297.2.2.2.2.2.2.2.2.2.2.2.2.1
theorem dL_remove_16 : decode cL_remove 16 = .ok (.iconst 1, 1) := fdf dAb_297.2.2.2.2.2.2.2.2.2.2.2.2.2.1
theorem dL_remove_17 : decode cL_remove 17 = .ok (.ireturn, 1) := fdf dAb_297.2.2.2.2.2.2.2.2.2.2.2.2.2.2.1
theorem dL_remove_18 : decode cL_remove 18 = .ok (.iconst 0, 1) := fdf dAb_297.2.2.2.2.2.2.2.2.2.2.2.2.2.2.2
theorem dAb_298 : fdq cL_remove 19 (.ireturn) 1 = true ∧ fdq cL_removeValue 0 (.aload_n 3) 1 = true ∧ fdq cL_removeValue 1 (.aload_n 0) 1 = true ∧ fdq cL_removeValue 2 (.iload_n 1) 1 = true ∧ fdq cL_removeValue 3 (.iload_n 2) 1 = true ∧ fdq cL_removeValue 4 (.invokevirtual 132) 3 = true ∧ fdq cL_removeValue 7 (.i2l) 1 = true ∧ fdq cL_removeValue 8 (.putfield 13) 3 = true ∧ fdq cL_removeValue 11 (.goto 11) 3 = true ∧ fdq cL_removeValue 14 (.astore 4) 2 = true ∧ fdq cL_removeValue 16 (.iconst 1) 1 = true ∧ fdq cL_removeValue 17 (.ireturn) 1 = true ∧ fdq cL_removeValue 18 (.astore 4) 2 = true ∧ fdq cL_removeValue 20 (.iconst 2) 1 = true ∧ fdq cL_removeValue 21 (.ireturn) 1 = true ∧ fdq cL_removeValue 22 (.iconst 0) 1 = true := by decide +kernel
theorem dL_remove_19 : decode cL_remove 19 = .ok (.ireturn, 1) := fdf dAb_298.1
theorem dL_removeValue_0 : decode cL_removeValue 0 = .ok (.aload_n 3, 1) := fdf dAb_298.2.1
theorem dL_removeValue_1 : decode cL_removeValue 1 = .ok (.aload_n 0, 1) := fdf dAb_298.2.2.1
theorem dL_removeValue_2 : decode cL_removeValue 2 = .ok (.iload_n 1, 1) := fdf dAb_298.2.2.2.1
theorem dL_removeValue_3 : decode cL_removeValue 3 = .ok (.iload_n 2, 1) := fdf dAb_298.2.2.2.2.1
theorem dL_removeValue_4 : decode cL_removeValue 4 = .ok (.invokevirtual 132, 3) := fdf dAb_298.2.2.2.2.2.1
theorem dL_removeValue_7 : decode cL_removeValue 7 = .ok (.i2l, 1) := fdf dAb_298.2.2.2.2.2.2.1
theorem dL_removeValue_8 : decode cL_removeValue 8 = .ok (.putfield 13, 3) := fdf dAb_298.2.2.2.2.2.2.2.1
theorem dL_removeValue_11 : decode cL_removeValue 11 = .ok (.goto 11, 3) := fdf dAb_298.2.2.2.2.2.2.2.2.1
theorem dL_removeValue_14 : decode cL_removeValue 14 = .ok (.astore 4, 2) := fdf dAb_298.2.2.2.2.2.2.2.2.2.1
theorem dL_removeValue_16 : decode cL_removeValue 16 = .ok (.iconst 1, 1) := fdf dAb_298.2.2.2.2.2.2.2.2.2.2.1
theorem dL_removeValue_17 : decode cL_removeValue 17 = .ok (.ireturn, 1) := fdf dAb_298.2.2.2.2.2.2.2.2.2.2.2.1
theorem dL_removeValue_18 : decode cL_removeValue 18 = .ok (.astore 4, 2) := fdf dAb_298.2.2.2.2.2.2.2.2.2.2.2.2.1
theorem dL_removeValue_20 : decode cL_removeValue 20 = .ok (.iconst 2, 1) := fdf dAb_298.2.2.2.2.2.2.2.2.2.2.2.2.2.1
theorem dL_removeValue_21 : decode cL_removeValue 21 = .ok (.ireturn, 1) := fdf dAb_298.2.2.2.2.2.2.2.2.2.2.2.2.2.2.1
theorem dL_removeValue_22 : decode cL_removeValue 22 = .ok (.iconst 0, 1) := fdf dAb_298.2.2.2.2.2.2.2.2.2.2.2.2.2.2.2
theorem dAb_299 : fdq cL_removeValue 23 (.ireturn) 1 = true ∧ fdq cL_removeAll 0 (.aload_n 3) 1 = true ∧ fdq cL_removeAll 1 (.aload_n 0) 1 = true ∧ fdq cL_removeAll 2 (.iload_n 1) 1 = true ∧ fdq cL_removeAll 3 (.iload_n 2) 1 = true ∧ fdq cL_removeAll 4 (.invokevirtual 135) 3 = true ∧ fdq cL_removeAll 7 (.i2l) 1 = true ∧ fdq cL_removeAll 8 (.putfield 13) 3 = true ∧ fdq cL_removeAll 11 (.goto 7) 3 = true ∧ fdq cL_removeAll 14 (.astore 4) 2 = true ∧ fdq cL_removeAll 16 (.iconst 1) 1 = true ∧ fdq cL_removeAll 17 (.ireturn) 1 = true ∧ fdq cL_removeAll 18 (.iconst 0) 1 = true ∧ fdq cL_removeAll 19 (.ireturn) 1 = true ∧ fdq cL_retainAll 0 (.aload_n 3) 1 = true ∧ fdq cL_retainAll 1 (.aload_n 0) 1 = true := by decide +kernel
theorem dL_removeValue_23 : decode cL_removeValue 23 = .ok (.ireturn, 1) := fdf dAb_299.1
theorem dL_removeAll_0 : decode cL_removeAll 0 = .ok (.aload_n 3, 1) := fdf dAb_299.2.1
theorem dL_removeAll_1 : decode cL_removeAll 1 = .ok (.aload_n 0, 1) := fdf dAb_299.2.2.1
theorem dL_removeAll_2 : decode cL_removeAll 2 = .ok (.iload_n 1, 1) := fdf dAb_299.2.2.2.1
theorem dL_removeAll_3 : decode cL_removeAll 3 = .ok (.iload_n 2, 1) := fdf dAb_299.2.2.2.2.1
theorem dL_removeAll_4 : decode cL_removeAll 4 = .ok (.invokevirtual 135, 3) := fdf dAb_299.2.2.2.2.2.1
theorem dL_removeAll_7 : decode cL_removeAll 7 = .ok (.i2l, 1) := fdf dAb_299.2.2.2.2.2.2.1
theorem dL_removeAll_8 : decode cL_removeAll 8 = .ok (.putfield 13, 3) := fdf dAb_299.2.2.2.2.2.2.2.1
theorem dL_removeAll_11 : decode cL_removeAll 11 = .ok (.goto 7, 3) := fdf dAb_299.2.2.2.2.2.2.2.2.1
theorem dL_removeAll_14 : decode cL_removeAll 14 = .ok (.astore 4, 2) := fdf dAb_299.2.2.2.2.2.2.2.2.2.1
theorem dL_removeAll_16 : decode cL_removeAll 16 = .ok (.iconst 1, 1) := fdf dAb_299.2.2.2.2.2.2.2.2.2.2.1
theorem dL_removeAll_17 : decode cL_removeAll 17 = .ok (.ireturn, 1) := fdf dAb_299.2.2.2.2.2.2.2.2.2.2.2.1
theorem dL_removeAll_18 : decode cL_removeAll 18 = .ok (.iconst 0, 1) := fdf dAb_299.2.2.2.2.2.2.2.2.2.2.2.2.1
theorem dL_removeAll_19 : decode cL_removeAll 19 = .ok (.ireturn, 1) := fdf dAb_299.2.2.2.2.2.2.2.2.2.2.2.2.2.1
theorem dL_retainAll_0 : decode cL_retainAll 0 = .ok (.aload_n 3, 1) := fdf dAb_299.2.2.2.2.2.2.2.2.2.2.2.2.2.2.1
theorem dL_retainAll_1 : decode cL_retainAll 1 = .ok (.aload_n 0, 1) := fdf dAb_299.2.2.2.2.2.2.2.2.2.2.2.2.2.2.2
theorem dAb_300 : fdq cL_retainAll 2 (.iload_n 1) 1 = true ∧ fdq cL_retainAll 3 (.iload_n 2) 1 = true ∧ fdq cL_retainAll 4 (.invokevirtual 138) 3 = true ∧ fdq cL_retainAll 7 (.i2l) 1 = true ∧ fdq cL_retainAll 8 (.putfield 13) 3 = true ∧ fdq cL_retainAll 11 (.goto 7) 3 = true ∧ fdq cL_retainAll 14 (.astore 4) 2 = true ∧ fdq cL_retainAll 16 (.iconst 1) 1 = true ∧ fdq cL_retainAll 17 (.ireturn) 1 = true ∧ fdq cL_retainAll 18 (.iconst 0) 1 = true ∧ fdq cL_retainAll 19 (.ireturn) 1 = true ∧ fdq cL_removeIf 0 (.aload 4) 2 = true ∧ fdq cL_removeIf 2 (.aload_n 0) 1 = true ∧ fdq cL_removeIf 3 (.iload_n 1) 1 = true ∧ fdq cL_removeIf 4 (.iload_n 2) 1 = true ∧ fdq cL_removeIf 5 (.iload_n 3) 1 = true := by decide +kernel
theorem dL_retainAll_2 : decode cL_retainAll 2 = .ok (.iload_n 1, 1) := fdf dAb_300.1
theorem dL_retainAll_3 : decode cL_retainAll 3 = .ok (.iload_n 2, 1) := fdf dAb_300.2.1
theorem dL_retainAll_4 : decode cL_retainAll 4 = .ok (.invokevirtual 138, 3) := fdf dAb_300.2.2.1
theorem dL_retainAll_7 : decode cL_retainAll 7 = .ok (.i2l, 1) := fdf dAb_300.2.2.2.1
theorem dL_retainAll_8 : decode cL_retainAll 8 = .ok (.putfield 13, 3) := fdf dAb_300.2.2.2.2.1
theorem dL_retainAll_11 : decode cL_retainAll 11 = .ok (.goto 7, 3) := fdf dAb_300.2.2.2.2.2.1
theorem dL_retainAll_14 : decode cL_retainAll 14 = .ok (.astore 4, 2) := fdf dAb_300.2.2.2.2.2.2.1
theorem dL_retainAll_16 : decode cL_retainAll 16 = .ok (.iconst 1, 1) := fdf dAb_300.2.2.2.2.2.2.2.1
theorem dL_retainAll_17 : decode cL_retainAll 17 = .ok (.ireturn, 1) := fdf dAb_300.2.2.2.2.2.2.2.2.1
theorem dL_retainAll_18 : decode cL_retainAll 18 = .ok (.iconst 0, 1) := fdf dAb_300.2.2.2.2.2.2.2.2.2.1
theorem dL_retainAll_19 : decode cL_retainAll 19 = .ok (.ireturn, 1) := fdf dAb_300.2.2.2.2.2.2.2.2.2.2.1
theorem dL_removeIf_0 : decode cL_removeIf 0 = .ok (.aload 4, 2) := fdf dAb_300.2.2.2.2.2.2.2.2.2.2.2.1
theorem dL_removeIf_2 : decode cL_removeIf 2 = .ok (.aload_n 0, 1) := fdf dAb_300.2.2.2.2.2.2.2.2.2.2.2.2.1
theorem dL_removeIf_3 : decode cL_removeIf 3 = .ok (.iload_n 1, 1) := fdf dAb_300.2.2.2.2.2.2.2.2.2.2.2.2.2.1
theorem dL_removeIf_4 : decode cL_removeIf 4 = .ok (.iload_n 2, 1) := fdf dAb_300.2.2.2.2.2.2.2.2.2.2.2.2.2.2.1
theorem dL_removeIf_5 : decode cL_removeIf 5 = .ok (.iload_n 3, 1) := fdf dAb_300.2.2.2.2.2.2.2.2.2.2.2.2.2.2.2
theorem dAb_301 : fdq cL_removeIf 6 (.invokevirtual 141) 3 = true ∧ fdq cL_removeIf 9 (.i2l) 1 = true ∧ fdq cL_removeIf 10 (.putfield 13) 3 = true ∧ fdq cL_removeIf 13 (.goto 11) 3 = true ∧ fdq cL_removeIf 16 (.astore 5) 2 = true ∧ fdq cL_removeIf 18 (.iconst 1) 1 = true ∧ fdq cL_removeIf 19 (.ireturn) 1 = true ∧ fdq cL_removeIf 20 (.astore 5) 2 = true ∧ fdq cL_removeIf 22 (.iconst 2) 1 = true ∧ fdq cL_removeIf 23 (.ireturn) 1 = true ∧ fdq cL_removeIf 24 (.iconst 0) 1 = true ∧ fdq cL_removeIf 25 (.ireturn) 1 = true ∧ fdq cL_clear 0 (.aload_n 2) 1 = true ∧ fdq cL_clear 1 (.aload_n 0) 1 = true ∧ fdq cL_clear 2 (.iload_n 1) 1 = true ∧ fdq cL_clear 3 (.invokevirtual 144) 3 = true := by decide +kernel
theorem dL_removeIf_6 : decode cL_removeIf 6 = .ok (.invokevirtual 141, 3) := fdf dAb_301.1
theorem dL_removeIf_9 : decode cL_removeIf 9 = .ok (.i2l, 1) := fdf dAb_301.2.1
theorem dL_removeIf_10 : decode cL_removeIf 10 = .ok (.putfield 13, 3) := fdf dAb_301.2.2.1
theorem dL_removeIf_13 : decode cL_removeIf 13 = .ok (.goto 11, 3) := fdf dAb_301.2.2.2.1
theorem dL_removeIf_16 : decode cL_removeIf 16 = .ok (.astore 5, 2) := fdf dAb_301.2.2.2.2.1
theorem dL_removeIf_18 : decode cL_removeIf 18 = .ok (.iconst 1, 1) := fdf dAb_301.2.2.2.2.2.1
theorem dL_removeIf_19 : decode cL_removeIf 19 = .ok (.ireturn, 1) := fdf dAb_301.2.2.2.2.2.2.1
theorem dL_removeIf_20 : decode cL_removeIf 20 = .ok (.astore 5, 2) := fdf dAb_301.2.2.2.2.2.2.2.1
theorem dL_removeIf_22 : decode cL_removeIf 22 = .ok (.iconst 2, 1) := fdf dAb_301.2.2.2.2.2.2.2.2.1
theorem dL_removeIf_23 : decode cL_removeIf 23 = .ok (.ireturn, 1) := fdf dAb_301.2.2.2.2.2.2.2.2.2.1
theorem dL_removeIf_24 : decode cL_removeIf 24 = .ok (.iconst 0, 1) := fdf dAb_301.2.2.2.2.2.2.2.2.2.2.1
theorem dL_removeIf_25 : decode cL_removeIf 25 = .ok (.ireturn, 1) := fdf dAb_301.2.2.2.2.2.2.2.2.2.2.2.1
theorem dL_clear_0 : decode cL_clear 0 = .ok (.aload_n 2, 1) := fdf dAb_301.2.2.2.2.2.2.2.2.2.2.2.2.1
theorem dL_clear_1 : decode cL_clear 1 = .ok (.aload_n 0, 1) := fdf dAb_301.2.2.2.2.2.2.2.2.2.2.2.2.2.1
theorem dL_clear_2 : decode cL_clear 2 = .ok (.iload_n 1, 1) := fdf dAb_301.2.2.2.2.2.2.2.2.2.2.2.2.2.2.1
theorem dL_clear_3 : decode cL_clear 3 = .ok (.invokevirtual 144, 3) := fdf dAb_301.2.2.2.2.2.2.2.2.2.2.2.2.2.2.2
theorem dAb_302 : fdq cL_clear 6 (.i2l) 1 = true ∧ fdq cL_clear 7 (.putfield 13) 3 = true ∧ fdq cL_clear 10 (.goto 6) 3 = true ∧ fdq cL_clear 13 (.astore_n 3) 1 = true ∧ fdq cL_clear 14 (.iconst 1) 1 = true ∧ fdq cL_clear 15 (.ireturn) 1 = true ∧ fdq cL_clear 16 (.iconst 0) 1 = true ∧ fdq cL_clear 17 (.ireturn) 1 = true ∧ fdq cL_walkChange 0 (.aload 4) 2 = true ∧ fdq cL_walkChange 2 (.aload_n 0) 1 = true ∧ fdq cL_walkChange 3 (.iload_n 1) 1 = true ∧ fdq cL_walkChange 4 (.iload_n 2) 1 = true ∧ fdq cL_walkChange 5 (.iload_n 3) 1 = true ∧ fdq cL_walkChange 6 (.invokevirtual 147) 3 = true ∧ fdq cL_walkChange 9 (.i2l) 1 = true ∧ fdq cL_walkChange 10 (.putfield 13) 3 = true := by decide +kernel
theorem dL_clear_6 : decode cL_clear 6 = .ok (.i2l, 1) := fdf dAb_302.1
theorem dL_clear_7 : decode cL_clear 7 = .ok (.putfield 13, 3) := fdf dAb_302.2.1
theorem dL_clear_10 : decode cL_clear 10 = .ok (.goto 6, 3) := fdf dAb_302.2.2.1
theorem dL_clear_13 : decode cL_clear 13 = .ok (.astore_n 3, 1) := fdf dAb_302.2.2.2.1
theorem dL_clear_14 : decode cL_clear 14 = .ok (.iconst 1, 1) := fdf dAb_302.2.2.2.2.1
theorem dL_clear_15 : decode cL_clear 15 = .ok (.ireturn, 1) := fdf dAb_302.2.2.2.2.2.1
theorem dL_clear_16 : decode cL_clear 16 = .ok (.iconst 0, 1) := fdf dAb_302.2.2.2.2.2.2.1
theorem dL_clear_17 : decode cL_clear 17 = .ok (.ireturn, 1) := fdf dAb_302.2.2.2.2.2.2.2.1
theorem dL_walkChange_0 : decode cL_walkChange 0 = .ok (.aload 4, 2) := fdf dAb_302.2.2.2.2.2.2.2.2.1
theorem dL_walkChange_2 : decode cL_walkChange 2 = .ok (.aload_n 0, 1) := fdf dAb_302.2.2.2.2.2.2.2.2.2.1
theorem dL_walkChange_3 : decode cL_walkChange 3 = .ok (.iload_n 1, 1) := fdf dAb_302.2.2.2.2.2.2.2.2.2.2.1
theorem dL_walkChange_4 : decode cL_walkChange 4 = .ok (.iload_n 2, 1) := fdf dAb_302.2.2.2.2.2.2.2.2.2.2.2.1
theorem dL_walkChange_5 : decode cL_walkChange 5 = .ok (.iload_n 3, 1) := fdf dAb_302.2.2.2.2.2.2.2.2.2.2.2.2.1
theorem dL_walkChange_6 : decode cL_walkChange 6 = .ok (.invokevirtual 147, 3) := fdf dAb_302.2.2.2.2.2.2.2.2.2.2.2.2.2.1
theorem dL_walkChange_9 : decode cL_walkChange 9 = .ok (.i2l, 1) := fdf dAb_302.2.2.2.2.2.2.2.2.2.2.2.2.2.2.1
theorem dL_walkChange_10 : decode cL_walkChange 10 = .ok (.putfield 13, 3) := fdf dAb_302.2.2.2.2.2.2.2.2.2.2.2.2.2.2.2
theorem dAb_303 : fdq cL_walkChange 13 (.goto 11) 3 = true ∧ fdq cL_walkChange 16 (.astore 5) 2 = true ∧ fdq cL_walkChange 18 (.iconst 1) 1 = true ∧ fdq cL_walkChange 19 (.ireturn) 1 = true ∧ fdq cL_walkChange 20 (.astore 5) 2 = true ∧ fdq cL_walkChange 22 (.iconst 2) 1 = true ∧ fdq cL_walkChange 23 (.ireturn) 1 = true ∧ fdq cL_walkChange 24 (.iconst 0) 1 = true ∧ fdq cL_walkChange 25 (.ireturn) 1 = true ∧ fdq cL_house 0 (.aload_n 2) 1 = true ∧ fdq cL_house 1 (.aload_n 0) 1 = true ∧ fdq cL_house 2 (.iload_n 1) 1 = true ∧ fdq cL_house 3 (.invokevirtual 150) 3 = true ∧ fdq cL_house 6 (.i2l) 1 = true ∧ fdq cL_house 7 (.putfield 13) 3 = true ∧ fdq cL_house 10 (.goto 6) 3 = true := by decide +kernel
theorem dL_walkChange_13 : decode cL_walkChange 13 = .ok (.goto 11, 3) := fdf dAb_303.1
theorem dL_walkChange_16 : decode cL_walkChange 16 = .ok (.astore 5, 2) := fdf dAb_303.2.1
theorem dL_walkChange_18 : decode cL_walkChange 18 = .ok (.iconst 1, 1) := fdf dAb_303.2.2.1
theorem dL_walkChange_19 : decode cL_walkChange 19 = .ok (.ireturn, 1) := fdf dAb_303.2.2.2.1
theorem dL_walkChange_20 : decode cL_walkChange 20 = .ok (.astore 5, 2) := fdf dAb_303.2.2.2.2.1
theorem dL_walkChange_22 : decode cL_walkChange 22 = .ok (.iconst 2, 1) := fdf dAb_303.2.2.2.2.2.1
theorem dL_walkChange_23 : decode cL_walkChange 23 = .ok (.ireturn, 1) := fdf dAb_303.2.2.2.2.2.2.1
theorem dL_walkChange_24 : decode cL_walkChange 24 = .ok (.iconst 0, 1) := fdf dAb_303.2.2.2.2.2.2.2.1
theorem dL_walkChange_25 : decode cL_walkChange 25 = .ok (.ireturn, 1) := fdf dAb_303.2.2.2.2.2.2.2.2.1
theorem dL_house_0 : decode cL_house 0 = .ok (.aload_n 2, 1) := fdf dAb_303.2.2.2.2.2.2.2.2.2.1
theorem dL_house_1 : decode cL_house 1 = .ok (.aload_n 0, 1) := fdf dAb_303.2.2.2.2.2.2.2.2.2.2.1
theorem dL_house_2 : decode cL_house 2 = .ok (.iload_n 1, 1) := fdf dAb_303.2.2.2.2.2.2.2.2.2.2.2.1
theorem dL_house_3 : decode cL_house 3 = .ok (.invokevirtual 150, 3) := fdf dAb_303.2.2.2.2.2.2.2.2.2.2.2.2.1
theorem dL_house_6 : decode cL_house 6 = .ok (.i2l, 1) := fdf dAb_303.2.2.2.2.2.2.2.2.2.2.2.2.2.1
theorem dL_house_7 : decode cL_house 7 = .ok (.putfield 13, 3) := fdf dAb_303.2.2.2.2.2.2.2.2.2.2.2.2.2.2.1
theorem dL_house_10 : decode cL_house 10 = .ok (.goto 6, 3) := fdf dAb_303.2.2.2.2.2.2.2.2.2.2.2.2.2.2.2
theorem dAb_304 : fdq cL_house 13 (.astore_n 3) 1 = true ∧ fdq cL_house 14 (.iconst 1) 1 = true ∧ fdq cL_house 15 (.ireturn) 1 = true ∧ fdq cL_house 16 (.iconst 0) 1 = true ∧ fdq cL_house 17 (.ireturn) 1 = true ∧ fdq cL_rowOf 0 (.aload_n 2) 1 = true ∧ fdq cL_rowOf 1 (.aload_n 0) 1 = true ∧ fdq cL_rowOf 2 (.iload_n 1) 1 = true ∧ fdq cL_rowOf 3 (.invokevirtual 153) 3 = true ∧ fdq cL_rowOf 6 (.i2l) 1 = true ∧ fdq cL_rowOf 7 (.putfield 13) 3 = true ∧ fdq cL_rowOf 10 (.goto 6) 3 = true ∧ fdq cL_rowOf 13 (.astore_n 3) 1 = true ∧ fdq cL_rowOf 14 (.iconst 1) 1 = true ∧ fdq cL_rowOf 15 (.ireturn) 1 = true ∧ fdq cL_rowOf 16 (.iconst 0) 1 = true := by decide +kernel
theorem dL_house_13 : decode cL_house 13 = .ok (.astore_n 3, 1) := fdf dAb_304.1
theorem dL_house_14 : decode cL_house 14 = .ok (.iconst 1, 1) := fdf dAb_304.2.1
theorem dL_house_15 : decode cL_house 15 = .ok (.ireturn, 1) := fdf dAb_304.2.2.1
theorem dL_house_16 : decode cL_house 16 = .ok (.iconst 0, 1) := fdf dAb_304.2.2.2.1
theorem dL_house_17 : decode cL_house 17 = .ok (.ireturn, 1) := fdf dAb_304.2.2.2.2.1
theorem dL_rowOf_0 : decode cL_rowOf 0 = .ok (.aload_n 2, 1) := fdf dAb_304.2.2.2.2.2.1
theorem dL_rowOf_1 : decode cL_rowOf 1 = .ok (.aload_n 0, 1) := fdf dAb_304.2.2.2.2.2.2.1
theorem dL_rowOf_2 : decode cL_rowOf 2 = .ok (.iload_n 1, 1) := fdf dAb_304.2.2.2.2.2.2.2.1
theorem dL_rowOf_3 : decode cL_rowOf 3 = .ok (.invokevirtual 153, 3) := fdf dAb_304.2.2.2.2.2.2.2.2.1
theorem dL_rowOf_6 : decode cL_rowOf 6 = .ok (.i2l, 1) := fdf dAb_304.2.2.2.2.2.2.2.2.2.1
theorem dL_rowOf_7 : decode cL_rowOf 7 = .ok (.putfield 13, 3) := fdf dAb_304.2.2.2.2.2.2.2.2.2.2.1
theorem dL_rowOf_10 : decode cL_rowOf 10 = .ok (.goto 6, 3) := fdf dAb_304.2.2.2.2.2.2.2.2.2.2.2.1
theorem dL_rowOf_13 : decode cL_rowOf 13 = .ok (.astore_n 3, 1) := fdf dAb_304.2.2.2.2.2.2.2.2.2.2.2.2.1
theorem dL_rowOf_14 : decode cL_rowOf 14 = .ok (.iconst 1, 1) := fdf dAb_304.2.2.2.2.2.2.2.2.2.2.2.2.2.1
theorem dL_rowOf_15 : decode cL_rowOf 15 = .ok (.ireturn, 1) := fdf dAb_304.2.2.2.2.2.2.2.2.2.2.2.2.2.2.1
theorem dL_rowOf_16 : decode cL_rowOf 16 = .ok (.iconst 0, 1) := fdf dAb_304.2.2.2.2.2.2.2.2.2.2.2.2.2.2.2
theorem dAb_305 : fdq cL_rowOf 17 (.ireturn) 1 = true ∧ fdq cL_begin 0 (.aload_n 2) 1 = true ∧ fdq cL_begin 1 (.aload_n 0) 1 = true ∧ fdq cL_begin 2 (.iload_n 1) 1 = true ∧ fdq cL_begin 3 (.invokevirtual 156) 3 = true ∧ fdq cL_begin 6 (.i2l) 1 = true ∧ fdq cL_begin 7 (.putfield 13) 3 = true ∧ fdq cL_begin 10 (.goto 6) 3 = true ∧ fdq cL_begin 13 (.astore_n 3) 1 = true ∧ fdq cL_begin 14 (.iconst 1) 1 = true ∧ fdq cL_begin 15 (.ireturn) 1 = true ∧ fdq cL_begin 16 (.iconst 0) 1 = true ∧ fdq cL_begin 17 (.ireturn) 1 = true := by decide +kernel
theorem dL_rowOf_17 : decode cL_rowOf 17 = .ok (.ireturn, 1) := fdf dAb_305.1
theorem dL_begin_0 : decode cL_begin 0 = .ok (.aload_n 2, 1) := fdf dAb_305.2.1
theorem dL_begin_1 : decode cL_begin 1 = .ok (.aload_n 0, 1) := fdf dAb_305.2.2.1
theorem dL_begin_2 : decode cL_begin 2 = .ok (.iload_n 1, 1) := fdf dAb_305.2.2.2.1
theorem dL_begin_3 : decode cL_begin 3 = .ok (.invokevirtual 156, 3) := fdf dAb_305.2.2.2.2.1
theorem dL_begin_6 : decode cL_begin 6 = .ok (.i2l, 1) := fdf dAb_305.2.2.2.2.2.1
theorem dL_begin_7 : decode cL_begin 7 = .ok (.putfield 13, 3) := fdf dAb_305.2.2.2.2.2.2.1
theorem dL_begin_10 : decode cL_begin 10 = .ok (.goto 6, 3) := fdf dAb_305.2.2.2.2.2.2.2.1
theorem dL_begin_13 : decode cL_begin 13 = .ok (.astore_n 3, 1) := fdf dAb_305.2.2.2.2.2.2.2.2.1
theorem dL_begin_14 : decode cL_begin 14 = .ok (.iconst 1, 1) := fdf dAb_305.2.2.2.2.2.2.2.2.2.1
theorem dL_begin_15 : decode cL_begin 15 = .ok (.ireturn, 1) := fdf dAb_305.2.2.2.2.2.2.2.2.2.2.1
theorem dL_begin_16 : decode cL_begin 16 = .ok (.iconst 0, 1) := fdf dAb_305.2.2.2.2.2.2.2.2.2.2.2.1
theorem dL_begin_17 : decode cL_begin 17 = .ok (.ireturn, 1) := fdf dAb_305.2.2.2.2.2.2.2.2.2.2.2.2
theorem dX1_init_16 : decode cX1_init 16 = .ok (.newarray .int, 2) := by decide +kernel
theorem dX1_init_59 : decode cX1_init 59 = .ok (.newarray .int, 2) := by decide +kernel
theorem dX1_house_7 : decode cX1_house 7 = .ok (.tableswitch 40 0 2 #[25, 30, 35], 25) := by decide +kernel
theorem dX1_isOfTest_1 : decode cX1_isOfTest 1 = .ok (.lookupswitch 51 #[(0, 27), (1, 40)], 27) := by decide +kernel
theorem dX1_ruled_6 : decode cX1_ruled 6 = .ok (.tableswitch 46 0 2 #[26, 33, 39], 26) := by decide +kernel
theorem dX3_init_12 : decode cX3_init 12 = .ok (.newarray .int, 2) := by decide +kernel
theorem dX3_init_18 : decode cX3_init 18 = .ok (.newarray .int, 2) := by decide +kernel
theorem dX3_init_24 : decode cX3_init 24 = .ok (.newarray .int, 2) := by decide +kernel
theorem dX3_init_33 : decode cX3_init 33 = .ok (.newarray .int, 2) := by decide +kernel
theorem dX3_init_70 : decode cX3_init 70 = .ok (.newarray .int, 2) := by decide +kernel
theorem dX3_init_78 : decode cX3_init 78 = .ok (.newarray .int, 2) := by decide +kernel
theorem dX3_all_6 : decode cX3_all 6 = .ok (.newarray .int, 2) := by decide +kernel
theorem dX3_lay_44 : decode cX3_lay 44 = .ok (.newarray .int, 2) := by decide +kernel
theorem dX3_houseNow_38 : decode cX3_houseNow 38 = .ok (.newarray .int, 2) := by decide +kernel
theorem dJ5_init_d00df_12 : decode cJ5_init_d00df 12 = .ok (.newarray .byte, 2) := by decide +kernel
theorem dJ7_copyOf_9075b_15 : decode cJ7_copyOf_9075b 15 = .ok (.newarray .byte, 2) := by decide +kernel
theorem dJ7_copyOfRangeByte_39247_10 : decode cJ7_copyOfRangeByte_39247 10 = .ok (.newarray .byte, 2) := by decide +kernel
