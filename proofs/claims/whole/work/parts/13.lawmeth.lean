def dl_L_addLine_0 : List (Nat × Instr × Nat) := [(0, .aload_n 2, 1), (1, .iconst 0, 1), (2, .aload_n 0, 1), (3, .iload_n 1, 1), (4, .invokevirtual 7, 3), (7, .i2l, 1), (8, .lastore, 1), (9, .goto 9, 3), (12, .astore_n 3, 1), (13, .iconst 1, 1), (14, .ireturn, 1), (15, .astore_n 3, 1), (16, .iconst 2, 1), (17, .ireturn, 1), (18, .iconst 0, 1), (19, .ireturn, 1)]
theorem da_L_addLine_0 : ∀ r ∈ dl_L_addLine_0, decode cL_addLine r.1 = .ok r.2 := by decide +kernel
theorem dL_addLine_0 : decode cL_addLine 0 = .ok (.aload_n 2, 1) := da_L_addLine_0 (0, .aload_n 2, 1) (List.mem_of_getElem? (i := 0) rfl)
theorem dL_addLine_1 : decode cL_addLine 1 = .ok (.iconst 0, 1) := da_L_addLine_0 (1, .iconst 0, 1) (List.mem_of_getElem? (i := 1) rfl)
theorem dL_addLine_2 : decode cL_addLine 2 = .ok (.aload_n 0, 1) := da_L_addLine_0 (2, .aload_n 0, 1) (List.mem_of_getElem? (i := 2) rfl)
theorem dL_addLine_3 : decode cL_addLine 3 = .ok (.iload_n 1, 1) := da_L_addLine_0 (3, .iload_n 1, 1) (List.mem_of_getElem? (i := 3) rfl)
theorem dL_addLine_4 : decode cL_addLine 4 = .ok (.invokevirtual 7, 3) := da_L_addLine_0 (4, .invokevirtual 7, 3) (List.mem_of_getElem? (i := 4) rfl)
theorem dL_addLine_7 : decode cL_addLine 7 = .ok (.i2l, 1) := da_L_addLine_0 (7, .i2l, 1) (List.mem_of_getElem? (i := 5) rfl)
theorem dL_addLine_8 : decode cL_addLine 8 = .ok (.lastore, 1) := da_L_addLine_0 (8, .lastore, 1) (List.mem_of_getElem? (i := 6) rfl)
theorem dL_addLine_9 : decode cL_addLine 9 = .ok (.goto 9, 3) := da_L_addLine_0 (9, .goto 9, 3) (List.mem_of_getElem? (i := 7) rfl)
theorem dL_addLine_12 : decode cL_addLine 12 = .ok (.astore_n 3, 1) := da_L_addLine_0 (12, .astore_n 3, 1) (List.mem_of_getElem? (i := 8) rfl)
theorem dL_addLine_13 : decode cL_addLine 13 = .ok (.iconst 1, 1) := da_L_addLine_0 (13, .iconst 1, 1) (List.mem_of_getElem? (i := 9) rfl)
theorem dL_addLine_14 : decode cL_addLine 14 = .ok (.ireturn, 1) := da_L_addLine_0 (14, .ireturn, 1) (List.mem_of_getElem? (i := 10) rfl)
theorem dL_addLine_15 : decode cL_addLine 15 = .ok (.astore_n 3, 1) := da_L_addLine_0 (15, .astore_n 3, 1) (List.mem_of_getElem? (i := 11) rfl)
theorem dL_addLine_16 : decode cL_addLine 16 = .ok (.iconst 2, 1) := da_L_addLine_0 (16, .iconst 2, 1) (List.mem_of_getElem? (i := 12) rfl)
theorem dL_addLine_17 : decode cL_addLine 17 = .ok (.ireturn, 1) := da_L_addLine_0 (17, .ireturn, 1) (List.mem_of_getElem? (i := 13) rfl)
theorem dL_addLine_18 : decode cL_addLine 18 = .ok (.iconst 0, 1) := da_L_addLine_0 (18, .iconst 0, 1) (List.mem_of_getElem? (i := 14) rfl)
theorem dL_addLine_19 : decode cL_addLine 19 = .ok (.ireturn, 1) := da_L_addLine_0 (19, .ireturn, 1) (List.mem_of_getElem? (i := 15) rfl)
def dl_L_addPart_0 : List (Nat × Instr × Nat) := [(0, .aload 4, 2), (2, .iconst 0, 1), (3, .aload_n 0, 1), (4, .iload_n 1, 1), (5, .iload_n 2, 1), (6, .iload_n 3, 1), (7, .invokevirtual 17, 3), (10, .i2l, 1), (11, .lastore, 1), (12, .goto 15, 3), (15, .astore 5, 2), (17, .iconst 1, 1), (18, .ireturn, 1), (19, .astore 5, 2), (21, .iconst 2, 1), (22, .ireturn, 1), (23, .astore 5, 2), (25, .iconst 3, 1), (26, .ireturn, 1), (27, .iconst 0, 1), (28, .ireturn, 1)]
theorem da_L_addPart_0 : ∀ r ∈ dl_L_addPart_0, decode cL_addPart r.1 = .ok r.2 := by decide +kernel
theorem dL_addPart_0 : decode cL_addPart 0 = .ok (.aload 4, 2) := da_L_addPart_0 (0, .aload 4, 2) (List.mem_of_getElem? (i := 0) rfl)
theorem dL_addPart_2 : decode cL_addPart 2 = .ok (.iconst 0, 1) := da_L_addPart_0 (2, .iconst 0, 1) (List.mem_of_getElem? (i := 1) rfl)
theorem dL_addPart_3 : decode cL_addPart 3 = .ok (.aload_n 0, 1) := da_L_addPart_0 (3, .aload_n 0, 1) (List.mem_of_getElem? (i := 2) rfl)
theorem dL_addPart_4 : decode cL_addPart 4 = .ok (.iload_n 1, 1) := da_L_addPart_0 (4, .iload_n 1, 1) (List.mem_of_getElem? (i := 3) rfl)
theorem dL_addPart_5 : decode cL_addPart 5 = .ok (.iload_n 2, 1) := da_L_addPart_0 (5, .iload_n 2, 1) (List.mem_of_getElem? (i := 4) rfl)
theorem dL_addPart_6 : decode cL_addPart 6 = .ok (.iload_n 3, 1) := da_L_addPart_0 (6, .iload_n 3, 1) (List.mem_of_getElem? (i := 5) rfl)
theorem dL_addPart_7 : decode cL_addPart 7 = .ok (.invokevirtual 17, 3) := da_L_addPart_0 (7, .invokevirtual 17, 3) (List.mem_of_getElem? (i := 6) rfl)
theorem dL_addPart_10 : decode cL_addPart 10 = .ok (.i2l, 1) := da_L_addPart_0 (10, .i2l, 1) (List.mem_of_getElem? (i := 7) rfl)
theorem dL_addPart_11 : decode cL_addPart 11 = .ok (.lastore, 1) := da_L_addPart_0 (11, .lastore, 1) (List.mem_of_getElem? (i := 8) rfl)
theorem dL_addPart_12 : decode cL_addPart 12 = .ok (.goto 15, 3) := da_L_addPart_0 (12, .goto 15, 3) (List.mem_of_getElem? (i := 9) rfl)
theorem dL_addPart_15 : decode cL_addPart 15 = .ok (.astore 5, 2) := da_L_addPart_0 (15, .astore 5, 2) (List.mem_of_getElem? (i := 10) rfl)
theorem dL_addPart_17 : decode cL_addPart 17 = .ok (.iconst 1, 1) := da_L_addPart_0 (17, .iconst 1, 1) (List.mem_of_getElem? (i := 11) rfl)
theorem dL_addPart_18 : decode cL_addPart 18 = .ok (.ireturn, 1) := da_L_addPart_0 (18, .ireturn, 1) (List.mem_of_getElem? (i := 12) rfl)
theorem dL_addPart_19 : decode cL_addPart 19 = .ok (.astore 5, 2) := da_L_addPart_0 (19, .astore 5, 2) (List.mem_of_getElem? (i := 13) rfl)
theorem dL_addPart_21 : decode cL_addPart 21 = .ok (.iconst 2, 1) := da_L_addPart_0 (21, .iconst 2, 1) (List.mem_of_getElem? (i := 14) rfl)
theorem dL_addPart_22 : decode cL_addPart 22 = .ok (.ireturn, 1) := da_L_addPart_0 (22, .ireturn, 1) (List.mem_of_getElem? (i := 15) rfl)
theorem dL_addPart_23 : decode cL_addPart 23 = .ok (.astore 5, 2) := da_L_addPart_0 (23, .astore 5, 2) (List.mem_of_getElem? (i := 16) rfl)
theorem dL_addPart_25 : decode cL_addPart 25 = .ok (.iconst 3, 1) := da_L_addPart_0 (25, .iconst 3, 1) (List.mem_of_getElem? (i := 17) rfl)
theorem dL_addPart_26 : decode cL_addPart 26 = .ok (.ireturn, 1) := da_L_addPart_0 (26, .ireturn, 1) (List.mem_of_getElem? (i := 18) rfl)
theorem dL_addPart_27 : decode cL_addPart 27 = .ok (.iconst 0, 1) := da_L_addPart_0 (27, .iconst 0, 1) (List.mem_of_getElem? (i := 19) rfl)
theorem dL_addPart_28 : decode cL_addPart 28 = .ok (.ireturn, 1) := da_L_addPart_0 (28, .ireturn, 1) (List.mem_of_getElem? (i := 20) rfl)
def dl_L_setLength_0 : List (Nat × Instr × Nat) := [(0, .aload 4, 2), (2, .iconst 0, 1), (3, .aload_n 0, 1), (4, .iload_n 1, 1), (5, .iload_n 2, 1), (6, .iload_n 3, 1), (7, .invokevirtual 23, 3), (10, .i2l, 1), (11, .lastore, 1), (12, .goto 15, 3), (15, .astore 5, 2), (17, .iconst 1, 1), (18, .ireturn, 1), (19, .astore 5, 2), (21, .iconst 2, 1), (22, .ireturn, 1), (23, .astore 5, 2), (25, .iconst 3, 1), (26, .ireturn, 1), (27, .iconst 0, 1), (28, .ireturn, 1)]
theorem da_L_setLength_0 : ∀ r ∈ dl_L_setLength_0, decode cL_setLength r.1 = .ok r.2 := by decide +kernel
theorem dL_setLength_0 : decode cL_setLength 0 = .ok (.aload 4, 2) := da_L_setLength_0 (0, .aload 4, 2) (List.mem_of_getElem? (i := 0) rfl)
theorem dL_setLength_2 : decode cL_setLength 2 = .ok (.iconst 0, 1) := da_L_setLength_0 (2, .iconst 0, 1) (List.mem_of_getElem? (i := 1) rfl)
theorem dL_setLength_3 : decode cL_setLength 3 = .ok (.aload_n 0, 1) := da_L_setLength_0 (3, .aload_n 0, 1) (List.mem_of_getElem? (i := 2) rfl)
theorem dL_setLength_4 : decode cL_setLength 4 = .ok (.iload_n 1, 1) := da_L_setLength_0 (4, .iload_n 1, 1) (List.mem_of_getElem? (i := 3) rfl)
theorem dL_setLength_5 : decode cL_setLength 5 = .ok (.iload_n 2, 1) := da_L_setLength_0 (5, .iload_n 2, 1) (List.mem_of_getElem? (i := 4) rfl)
theorem dL_setLength_6 : decode cL_setLength 6 = .ok (.iload_n 3, 1) := da_L_setLength_0 (6, .iload_n 3, 1) (List.mem_of_getElem? (i := 5) rfl)
theorem dL_setLength_7 : decode cL_setLength 7 = .ok (.invokevirtual 23, 3) := da_L_setLength_0 (7, .invokevirtual 23, 3) (List.mem_of_getElem? (i := 6) rfl)
theorem dL_setLength_10 : decode cL_setLength 10 = .ok (.i2l, 1) := da_L_setLength_0 (10, .i2l, 1) (List.mem_of_getElem? (i := 7) rfl)
theorem dL_setLength_11 : decode cL_setLength 11 = .ok (.lastore, 1) := da_L_setLength_0 (11, .lastore, 1) (List.mem_of_getElem? (i := 8) rfl)
theorem dL_setLength_12 : decode cL_setLength 12 = .ok (.goto 15, 3) := da_L_setLength_0 (12, .goto 15, 3) (List.mem_of_getElem? (i := 9) rfl)
theorem dL_setLength_15 : decode cL_setLength 15 = .ok (.astore 5, 2) := da_L_setLength_0 (15, .astore 5, 2) (List.mem_of_getElem? (i := 10) rfl)
theorem dL_setLength_17 : decode cL_setLength 17 = .ok (.iconst 1, 1) := da_L_setLength_0 (17, .iconst 1, 1) (List.mem_of_getElem? (i := 11) rfl)
theorem dL_setLength_18 : decode cL_setLength 18 = .ok (.ireturn, 1) := da_L_setLength_0 (18, .ireturn, 1) (List.mem_of_getElem? (i := 12) rfl)
theorem dL_setLength_19 : decode cL_setLength 19 = .ok (.astore 5, 2) := da_L_setLength_0 (19, .astore 5, 2) (List.mem_of_getElem? (i := 13) rfl)
theorem dL_setLength_21 : decode cL_setLength 21 = .ok (.iconst 2, 1) := da_L_setLength_0 (21, .iconst 2, 1) (List.mem_of_getElem? (i := 14) rfl)
theorem dL_setLength_22 : decode cL_setLength 22 = .ok (.ireturn, 1) := da_L_setLength_0 (22, .ireturn, 1) (List.mem_of_getElem? (i := 15) rfl)
theorem dL_setLength_23 : decode cL_setLength 23 = .ok (.astore 5, 2) := da_L_setLength_0 (23, .astore 5, 2) (List.mem_of_getElem? (i := 16) rfl)
theorem dL_setLength_25 : decode cL_setLength 25 = .ok (.iconst 3, 1) := da_L_setLength_0 (25, .iconst 3, 1) (List.mem_of_getElem? (i := 17) rfl)
theorem dL_setLength_26 : decode cL_setLength 26 = .ok (.ireturn, 1) := da_L_setLength_0 (26, .ireturn, 1) (List.mem_of_getElem? (i := 18) rfl)
theorem dL_setLength_27 : decode cL_setLength 27 = .ok (.iconst 0, 1) := da_L_setLength_0 (27, .iconst 0, 1) (List.mem_of_getElem? (i := 19) rfl)
theorem dL_setLength_28 : decode cL_setLength 28 = .ok (.ireturn, 1) := da_L_setLength_0 (28, .ireturn, 1) (List.mem_of_getElem? (i := 20) rfl)
def dl_L_length_0 : List (Nat × Instr × Nat) := [(0, .aload_n 2, 1), (1, .iconst 0, 1), (2, .aload_n 0, 1), (3, .iload_n 1, 1), (4, .invokevirtual 29, 3), (7, .i2l, 1), (8, .lastore, 1), (9, .goto 6, 3), (12, .astore_n 3, 1), (13, .iconst 1, 1), (14, .ireturn, 1), (15, .iconst 0, 1), (16, .ireturn, 1)]
theorem da_L_length_0 : ∀ r ∈ dl_L_length_0, decode cL_length r.1 = .ok r.2 := by decide +kernel
theorem dL_length_0 : decode cL_length 0 = .ok (.aload_n 2, 1) := da_L_length_0 (0, .aload_n 2, 1) (List.mem_of_getElem? (i := 0) rfl)
theorem dL_length_1 : decode cL_length 1 = .ok (.iconst 0, 1) := da_L_length_0 (1, .iconst 0, 1) (List.mem_of_getElem? (i := 1) rfl)
theorem dL_length_2 : decode cL_length 2 = .ok (.aload_n 0, 1) := da_L_length_0 (2, .aload_n 0, 1) (List.mem_of_getElem? (i := 2) rfl)
theorem dL_length_3 : decode cL_length 3 = .ok (.iload_n 1, 1) := da_L_length_0 (3, .iload_n 1, 1) (List.mem_of_getElem? (i := 3) rfl)
theorem dL_length_4 : decode cL_length 4 = .ok (.invokevirtual 29, 3) := da_L_length_0 (4, .invokevirtual 29, 3) (List.mem_of_getElem? (i := 4) rfl)
theorem dL_length_7 : decode cL_length 7 = .ok (.i2l, 1) := da_L_length_0 (7, .i2l, 1) (List.mem_of_getElem? (i := 5) rfl)
theorem dL_length_8 : decode cL_length 8 = .ok (.lastore, 1) := da_L_length_0 (8, .lastore, 1) (List.mem_of_getElem? (i := 6) rfl)
theorem dL_length_9 : decode cL_length 9 = .ok (.goto 6, 3) := da_L_length_0 (9, .goto 6, 3) (List.mem_of_getElem? (i := 7) rfl)
theorem dL_length_12 : decode cL_length 12 = .ok (.astore_n 3, 1) := da_L_length_0 (12, .astore_n 3, 1) (List.mem_of_getElem? (i := 8) rfl)
theorem dL_length_13 : decode cL_length 13 = .ok (.iconst 1, 1) := da_L_length_0 (13, .iconst 1, 1) (List.mem_of_getElem? (i := 9) rfl)
theorem dL_length_14 : decode cL_length 14 = .ok (.ireturn, 1) := da_L_length_0 (14, .ireturn, 1) (List.mem_of_getElem? (i := 10) rfl)
theorem dL_length_15 : decode cL_length 15 = .ok (.iconst 0, 1) := da_L_length_0 (15, .iconst 0, 1) (List.mem_of_getElem? (i := 11) rfl)
theorem dL_length_16 : decode cL_length 16 = .ok (.ireturn, 1) := da_L_length_0 (16, .ireturn, 1) (List.mem_of_getElem? (i := 12) rfl)
def dl_L_spools_0 : List (Nat × Instr × Nat) := [(0, .aload_n 2, 1), (1, .iconst 0, 1), (2, .aload_n 0, 1), (3, .iload_n 1, 1), (4, .invokevirtual 32, 3), (7, .i2l, 1), (8, .lastore, 1), (9, .goto 6, 3), (12, .astore_n 3, 1), (13, .iconst 1, 1), (14, .ireturn, 1), (15, .iconst 0, 1), (16, .ireturn, 1)]
theorem da_L_spools_0 : ∀ r ∈ dl_L_spools_0, decode cL_spools r.1 = .ok r.2 := by decide +kernel
theorem dL_spools_0 : decode cL_spools 0 = .ok (.aload_n 2, 1) := da_L_spools_0 (0, .aload_n 2, 1) (List.mem_of_getElem? (i := 0) rfl)
theorem dL_spools_1 : decode cL_spools 1 = .ok (.iconst 0, 1) := da_L_spools_0 (1, .iconst 0, 1) (List.mem_of_getElem? (i := 1) rfl)
theorem dL_spools_2 : decode cL_spools 2 = .ok (.aload_n 0, 1) := da_L_spools_0 (2, .aload_n 0, 1) (List.mem_of_getElem? (i := 2) rfl)
theorem dL_spools_3 : decode cL_spools 3 = .ok (.iload_n 1, 1) := da_L_spools_0 (3, .iload_n 1, 1) (List.mem_of_getElem? (i := 3) rfl)
theorem dL_spools_4 : decode cL_spools 4 = .ok (.invokevirtual 32, 3) := da_L_spools_0 (4, .invokevirtual 32, 3) (List.mem_of_getElem? (i := 4) rfl)
theorem dL_spools_7 : decode cL_spools 7 = .ok (.i2l, 1) := da_L_spools_0 (7, .i2l, 1) (List.mem_of_getElem? (i := 5) rfl)
theorem dL_spools_8 : decode cL_spools 8 = .ok (.lastore, 1) := da_L_spools_0 (8, .lastore, 1) (List.mem_of_getElem? (i := 6) rfl)
theorem dL_spools_9 : decode cL_spools 9 = .ok (.goto 6, 3) := da_L_spools_0 (9, .goto 6, 3) (List.mem_of_getElem? (i := 7) rfl)
theorem dL_spools_12 : decode cL_spools 12 = .ok (.astore_n 3, 1) := da_L_spools_0 (12, .astore_n 3, 1) (List.mem_of_getElem? (i := 8) rfl)
theorem dL_spools_13 : decode cL_spools 13 = .ok (.iconst 1, 1) := da_L_spools_0 (13, .iconst 1, 1) (List.mem_of_getElem? (i := 9) rfl)
theorem dL_spools_14 : decode cL_spools 14 = .ok (.ireturn, 1) := da_L_spools_0 (14, .ireturn, 1) (List.mem_of_getElem? (i := 10) rfl)
theorem dL_spools_15 : decode cL_spools 15 = .ok (.iconst 0, 1) := da_L_spools_0 (15, .iconst 0, 1) (List.mem_of_getElem? (i := 11) rfl)
theorem dL_spools_16 : decode cL_spools 16 = .ok (.ireturn, 1) := da_L_spools_0 (16, .ireturn, 1) (List.mem_of_getElem? (i := 12) rfl)
def dl_L_spoolOf_0 : List (Nat × Instr × Nat) := [(0, .aload_n 3, 1), (1, .iconst 0, 1), (2, .aload_n 0, 1), (3, .iload_n 1, 1), (4, .iload_n 2, 1), (5, .invokevirtual 35, 3), (8, .i2l, 1), (9, .lastore, 1), (10, .goto 7, 3), (13, .astore 4, 2), (15, .iconst 1, 1), (16, .ireturn, 1), (17, .iconst 0, 1), (18, .ireturn, 1)]
theorem da_L_spoolOf_0 : ∀ r ∈ dl_L_spoolOf_0, decode cL_spoolOf r.1 = .ok r.2 := by decide +kernel
theorem dL_spoolOf_0 : decode cL_spoolOf 0 = .ok (.aload_n 3, 1) := da_L_spoolOf_0 (0, .aload_n 3, 1) (List.mem_of_getElem? (i := 0) rfl)
theorem dL_spoolOf_1 : decode cL_spoolOf 1 = .ok (.iconst 0, 1) := da_L_spoolOf_0 (1, .iconst 0, 1) (List.mem_of_getElem? (i := 1) rfl)
theorem dL_spoolOf_2 : decode cL_spoolOf 2 = .ok (.aload_n 0, 1) := da_L_spoolOf_0 (2, .aload_n 0, 1) (List.mem_of_getElem? (i := 2) rfl)
theorem dL_spoolOf_3 : decode cL_spoolOf 3 = .ok (.iload_n 1, 1) := da_L_spoolOf_0 (3, .iload_n 1, 1) (List.mem_of_getElem? (i := 3) rfl)
theorem dL_spoolOf_4 : decode cL_spoolOf 4 = .ok (.iload_n 2, 1) := da_L_spoolOf_0 (4, .iload_n 2, 1) (List.mem_of_getElem? (i := 4) rfl)
theorem dL_spoolOf_5 : decode cL_spoolOf 5 = .ok (.invokevirtual 35, 3) := da_L_spoolOf_0 (5, .invokevirtual 35, 3) (List.mem_of_getElem? (i := 5) rfl)
theorem dL_spoolOf_8 : decode cL_spoolOf 8 = .ok (.i2l, 1) := da_L_spoolOf_0 (8, .i2l, 1) (List.mem_of_getElem? (i := 6) rfl)
theorem dL_spoolOf_9 : decode cL_spoolOf 9 = .ok (.lastore, 1) := da_L_spoolOf_0 (9, .lastore, 1) (List.mem_of_getElem? (i := 7) rfl)
theorem dL_spoolOf_10 : decode cL_spoolOf 10 = .ok (.goto 7, 3) := da_L_spoolOf_0 (10, .goto 7, 3) (List.mem_of_getElem? (i := 8) rfl)
theorem dL_spoolOf_13 : decode cL_spoolOf 13 = .ok (.astore 4, 2) := da_L_spoolOf_0 (13, .astore 4, 2) (List.mem_of_getElem? (i := 9) rfl)
theorem dL_spoolOf_15 : decode cL_spoolOf 15 = .ok (.iconst 1, 1) := da_L_spoolOf_0 (15, .iconst 1, 1) (List.mem_of_getElem? (i := 10) rfl)
theorem dL_spoolOf_16 : decode cL_spoolOf 16 = .ok (.ireturn, 1) := da_L_spoolOf_0 (16, .ireturn, 1) (List.mem_of_getElem? (i := 11) rfl)
theorem dL_spoolOf_17 : decode cL_spoolOf 17 = .ok (.iconst 0, 1) := da_L_spoolOf_0 (17, .iconst 0, 1) (List.mem_of_getElem? (i := 12) rfl)
theorem dL_spoolOf_18 : decode cL_spoolOf 18 = .ok (.ireturn, 1) := da_L_spoolOf_0 (18, .ireturn, 1) (List.mem_of_getElem? (i := 13) rfl)
def dl_L_isField_0 : List (Nat × Instr × Nat) := [(0, .aload_n 3, 1), (1, .iconst 0, 1), (2, .aload_n 0, 1), (3, .iload_n 1, 1), (4, .iload_n 2, 1), (5, .invokevirtual 39, 3), (8, .ifCond .eq 7, 3), (11, .lconst 1, 1), (12, .goto 4, 3), (15, .lconst 0, 1), (16, .lastore, 1), (17, .goto 7, 3), (20, .astore 4, 2), (22, .iconst 1, 1), (23, .ireturn, 1), (24, .iconst 0, 1), (25, .ireturn, 1)]
theorem da_L_isField_0 : ∀ r ∈ dl_L_isField_0, decode cL_isField r.1 = .ok r.2 := by decide +kernel
theorem dL_isField_0 : decode cL_isField 0 = .ok (.aload_n 3, 1) := da_L_isField_0 (0, .aload_n 3, 1) (List.mem_of_getElem? (i := 0) rfl)
theorem dL_isField_1 : decode cL_isField 1 = .ok (.iconst 0, 1) := da_L_isField_0 (1, .iconst 0, 1) (List.mem_of_getElem? (i := 1) rfl)
theorem dL_isField_2 : decode cL_isField 2 = .ok (.aload_n 0, 1) := da_L_isField_0 (2, .aload_n 0, 1) (List.mem_of_getElem? (i := 2) rfl)
theorem dL_isField_3 : decode cL_isField 3 = .ok (.iload_n 1, 1) := da_L_isField_0 (3, .iload_n 1, 1) (List.mem_of_getElem? (i := 3) rfl)
theorem dL_isField_4 : decode cL_isField 4 = .ok (.iload_n 2, 1) := da_L_isField_0 (4, .iload_n 2, 1) (List.mem_of_getElem? (i := 4) rfl)
theorem dL_isField_5 : decode cL_isField 5 = .ok (.invokevirtual 39, 3) := da_L_isField_0 (5, .invokevirtual 39, 3) (List.mem_of_getElem? (i := 5) rfl)
theorem dL_isField_8 : decode cL_isField 8 = .ok (.ifCond .eq 7, 3) := da_L_isField_0 (8, .ifCond .eq 7, 3) (List.mem_of_getElem? (i := 6) rfl)
theorem dL_isField_11 : decode cL_isField 11 = .ok (.lconst 1, 1) := da_L_isField_0 (11, .lconst 1, 1) (List.mem_of_getElem? (i := 7) rfl)
theorem dL_isField_12 : decode cL_isField 12 = .ok (.goto 4, 3) := da_L_isField_0 (12, .goto 4, 3) (List.mem_of_getElem? (i := 8) rfl)
theorem dL_isField_15 : decode cL_isField 15 = .ok (.lconst 0, 1) := da_L_isField_0 (15, .lconst 0, 1) (List.mem_of_getElem? (i := 9) rfl)
theorem dL_isField_16 : decode cL_isField 16 = .ok (.lastore, 1) := da_L_isField_0 (16, .lastore, 1) (List.mem_of_getElem? (i := 10) rfl)
theorem dL_isField_17 : decode cL_isField 17 = .ok (.goto 7, 3) := da_L_isField_0 (17, .goto 7, 3) (List.mem_of_getElem? (i := 11) rfl)
theorem dL_isField_20 : decode cL_isField 20 = .ok (.astore 4, 2) := da_L_isField_0 (20, .astore 4, 2) (List.mem_of_getElem? (i := 12) rfl)
theorem dL_isField_22 : decode cL_isField 22 = .ok (.iconst 1, 1) := da_L_isField_0 (22, .iconst 1, 1) (List.mem_of_getElem? (i := 13) rfl)
theorem dL_isField_23 : decode cL_isField 23 = .ok (.ireturn, 1) := da_L_isField_0 (23, .ireturn, 1) (List.mem_of_getElem? (i := 14) rfl)
theorem dL_isField_24 : decode cL_isField 24 = .ok (.iconst 0, 1) := da_L_isField_0 (24, .iconst 0, 1) (List.mem_of_getElem? (i := 15) rfl)
theorem dL_isField_25 : decode cL_isField 25 = .ok (.ireturn, 1) := da_L_isField_0 (25, .ireturn, 1) (List.mem_of_getElem? (i := 16) rfl)
def dl_L_addHeat_0 : List (Nat × Instr × Nat) := [(0, .aload 4, 2), (2, .iconst 0, 1), (3, .aload_n 0, 1), (4, .iload_n 1, 1), (5, .iload_n 2, 1), (6, .iload_n 3, 1), (7, .invokevirtual 43, 3), (10, .i2l, 1), (11, .lastore, 1), (12, .goto 11, 3), (15, .astore 5, 2), (17, .iconst 1, 1), (18, .ireturn, 1), (19, .astore 5, 2), (21, .iconst 2, 1), (22, .ireturn, 1), (23, .iconst 0, 1), (24, .ireturn, 1)]
theorem da_L_addHeat_0 : ∀ r ∈ dl_L_addHeat_0, decode cL_addHeat r.1 = .ok r.2 := by decide +kernel
theorem dL_addHeat_0 : decode cL_addHeat 0 = .ok (.aload 4, 2) := da_L_addHeat_0 (0, .aload 4, 2) (List.mem_of_getElem? (i := 0) rfl)
theorem dL_addHeat_2 : decode cL_addHeat 2 = .ok (.iconst 0, 1) := da_L_addHeat_0 (2, .iconst 0, 1) (List.mem_of_getElem? (i := 1) rfl)
theorem dL_addHeat_3 : decode cL_addHeat 3 = .ok (.aload_n 0, 1) := da_L_addHeat_0 (3, .aload_n 0, 1) (List.mem_of_getElem? (i := 2) rfl)
theorem dL_addHeat_4 : decode cL_addHeat 4 = .ok (.iload_n 1, 1) := da_L_addHeat_0 (4, .iload_n 1, 1) (List.mem_of_getElem? (i := 3) rfl)
theorem dL_addHeat_5 : decode cL_addHeat 5 = .ok (.iload_n 2, 1) := da_L_addHeat_0 (5, .iload_n 2, 1) (List.mem_of_getElem? (i := 4) rfl)
theorem dL_addHeat_6 : decode cL_addHeat 6 = .ok (.iload_n 3, 1) := da_L_addHeat_0 (6, .iload_n 3, 1) (List.mem_of_getElem? (i := 5) rfl)
theorem dL_addHeat_7 : decode cL_addHeat 7 = .ok (.invokevirtual 43, 3) := da_L_addHeat_0 (7, .invokevirtual 43, 3) (List.mem_of_getElem? (i := 6) rfl)
theorem dL_addHeat_10 : decode cL_addHeat 10 = .ok (.i2l, 1) := da_L_addHeat_0 (10, .i2l, 1) (List.mem_of_getElem? (i := 7) rfl)
theorem dL_addHeat_11 : decode cL_addHeat 11 = .ok (.lastore, 1) := da_L_addHeat_0 (11, .lastore, 1) (List.mem_of_getElem? (i := 8) rfl)
theorem dL_addHeat_12 : decode cL_addHeat 12 = .ok (.goto 11, 3) := da_L_addHeat_0 (12, .goto 11, 3) (List.mem_of_getElem? (i := 9) rfl)
theorem dL_addHeat_15 : decode cL_addHeat 15 = .ok (.astore 5, 2) := da_L_addHeat_0 (15, .astore 5, 2) (List.mem_of_getElem? (i := 10) rfl)
theorem dL_addHeat_17 : decode cL_addHeat 17 = .ok (.iconst 1, 1) := da_L_addHeat_0 (17, .iconst 1, 1) (List.mem_of_getElem? (i := 11) rfl)
theorem dL_addHeat_18 : decode cL_addHeat 18 = .ok (.ireturn, 1) := da_L_addHeat_0 (18, .ireturn, 1) (List.mem_of_getElem? (i := 12) rfl)
theorem dL_addHeat_19 : decode cL_addHeat 19 = .ok (.astore 5, 2) := da_L_addHeat_0 (19, .astore 5, 2) (List.mem_of_getElem? (i := 13) rfl)
theorem dL_addHeat_21 : decode cL_addHeat 21 = .ok (.iconst 2, 1) := da_L_addHeat_0 (21, .iconst 2, 1) (List.mem_of_getElem? (i := 14) rfl)
theorem dL_addHeat_22 : decode cL_addHeat 22 = .ok (.ireturn, 1) := da_L_addHeat_0 (22, .ireturn, 1) (List.mem_of_getElem? (i := 15) rfl)
theorem dL_addHeat_23 : decode cL_addHeat 23 = .ok (.iconst 0, 1) := da_L_addHeat_0 (23, .iconst 0, 1) (List.mem_of_getElem? (i := 16) rfl)
theorem dL_addHeat_24 : decode cL_addHeat 24 = .ok (.ireturn, 1) := da_L_addHeat_0 (24, .ireturn, 1) (List.mem_of_getElem? (i := 17) rfl)
def dl_L_left_0 : List (Nat × Instr × Nat) := [(0, .aload_n 2, 1), (1, .iconst 0, 1), (2, .aload_n 0, 1), (3, .iload_n 1, 1), (4, .invokevirtual 47, 3), (7, .i2l, 1), (8, .lastore, 1), (9, .goto 6, 3), (12, .astore_n 3, 1), (13, .iconst 1, 1), (14, .ireturn, 1), (15, .iconst 0, 1), (16, .ireturn, 1)]
theorem da_L_left_0 : ∀ r ∈ dl_L_left_0, decode cL_left r.1 = .ok r.2 := by decide +kernel
theorem dL_left_0 : decode cL_left 0 = .ok (.aload_n 2, 1) := da_L_left_0 (0, .aload_n 2, 1) (List.mem_of_getElem? (i := 0) rfl)
theorem dL_left_1 : decode cL_left 1 = .ok (.iconst 0, 1) := da_L_left_0 (1, .iconst 0, 1) (List.mem_of_getElem? (i := 1) rfl)
theorem dL_left_2 : decode cL_left 2 = .ok (.aload_n 0, 1) := da_L_left_0 (2, .aload_n 0, 1) (List.mem_of_getElem? (i := 2) rfl)
theorem dL_left_3 : decode cL_left 3 = .ok (.iload_n 1, 1) := da_L_left_0 (3, .iload_n 1, 1) (List.mem_of_getElem? (i := 3) rfl)
theorem dL_left_4 : decode cL_left 4 = .ok (.invokevirtual 47, 3) := da_L_left_0 (4, .invokevirtual 47, 3) (List.mem_of_getElem? (i := 4) rfl)
theorem dL_left_7 : decode cL_left 7 = .ok (.i2l, 1) := da_L_left_0 (7, .i2l, 1) (List.mem_of_getElem? (i := 5) rfl)
theorem dL_left_8 : decode cL_left 8 = .ok (.lastore, 1) := da_L_left_0 (8, .lastore, 1) (List.mem_of_getElem? (i := 6) rfl)
theorem dL_left_9 : decode cL_left 9 = .ok (.goto 6, 3) := da_L_left_0 (9, .goto 6, 3) (List.mem_of_getElem? (i := 7) rfl)
theorem dL_left_12 : decode cL_left 12 = .ok (.astore_n 3, 1) := da_L_left_0 (12, .astore_n 3, 1) (List.mem_of_getElem? (i := 8) rfl)
theorem dL_left_13 : decode cL_left 13 = .ok (.iconst 1, 1) := da_L_left_0 (13, .iconst 1, 1) (List.mem_of_getElem? (i := 9) rfl)
theorem dL_left_14 : decode cL_left 14 = .ok (.ireturn, 1) := da_L_left_0 (14, .ireturn, 1) (List.mem_of_getElem? (i := 10) rfl)
theorem dL_left_15 : decode cL_left 15 = .ok (.iconst 0, 1) := da_L_left_0 (15, .iconst 0, 1) (List.mem_of_getElem? (i := 11) rfl)
theorem dL_left_16 : decode cL_left 16 = .ok (.ireturn, 1) := da_L_left_0 (16, .ireturn, 1) (List.mem_of_getElem? (i := 12) rfl)
def dl_L_losePaper_0 : List (Nat × Instr × Nat) := [(0, .aload_n 2, 1), (1, .iconst 0, 1), (2, .aload_n 0, 1), (3, .iload_n 1, 1), (4, .invokevirtual 50, 3), (7, .ifCond .eq 7, 3), (10, .lconst 1, 1), (11, .goto 4, 3), (14, .lconst 0, 1), (15, .lastore, 1), (16, .goto 6, 3), (19, .astore_n 3, 1), (20, .iconst 1, 1), (21, .ireturn, 1), (22, .iconst 0, 1), (23, .ireturn, 1)]
theorem da_L_losePaper_0 : ∀ r ∈ dl_L_losePaper_0, decode cL_losePaper r.1 = .ok r.2 := by decide +kernel
theorem dL_losePaper_0 : decode cL_losePaper 0 = .ok (.aload_n 2, 1) := da_L_losePaper_0 (0, .aload_n 2, 1) (List.mem_of_getElem? (i := 0) rfl)
theorem dL_losePaper_1 : decode cL_losePaper 1 = .ok (.iconst 0, 1) := da_L_losePaper_0 (1, .iconst 0, 1) (List.mem_of_getElem? (i := 1) rfl)
theorem dL_losePaper_2 : decode cL_losePaper 2 = .ok (.aload_n 0, 1) := da_L_losePaper_0 (2, .aload_n 0, 1) (List.mem_of_getElem? (i := 2) rfl)
theorem dL_losePaper_3 : decode cL_losePaper 3 = .ok (.iload_n 1, 1) := da_L_losePaper_0 (3, .iload_n 1, 1) (List.mem_of_getElem? (i := 3) rfl)
theorem dL_losePaper_4 : decode cL_losePaper 4 = .ok (.invokevirtual 50, 3) := da_L_losePaper_0 (4, .invokevirtual 50, 3) (List.mem_of_getElem? (i := 4) rfl)
theorem dL_losePaper_7 : decode cL_losePaper 7 = .ok (.ifCond .eq 7, 3) := da_L_losePaper_0 (7, .ifCond .eq 7, 3) (List.mem_of_getElem? (i := 5) rfl)
theorem dL_losePaper_10 : decode cL_losePaper 10 = .ok (.lconst 1, 1) := da_L_losePaper_0 (10, .lconst 1, 1) (List.mem_of_getElem? (i := 6) rfl)
theorem dL_losePaper_11 : decode cL_losePaper 11 = .ok (.goto 4, 3) := da_L_losePaper_0 (11, .goto 4, 3) (List.mem_of_getElem? (i := 7) rfl)
theorem dL_losePaper_14 : decode cL_losePaper 14 = .ok (.lconst 0, 1) := da_L_losePaper_0 (14, .lconst 0, 1) (List.mem_of_getElem? (i := 8) rfl)
theorem dL_losePaper_15 : decode cL_losePaper 15 = .ok (.lastore, 1) := da_L_losePaper_0 (15, .lastore, 1) (List.mem_of_getElem? (i := 9) rfl)
theorem dL_losePaper_16 : decode cL_losePaper 16 = .ok (.goto 6, 3) := da_L_losePaper_0 (16, .goto 6, 3) (List.mem_of_getElem? (i := 10) rfl)
theorem dL_losePaper_19 : decode cL_losePaper 19 = .ok (.astore_n 3, 1) := da_L_losePaper_0 (19, .astore_n 3, 1) (List.mem_of_getElem? (i := 11) rfl)
theorem dL_losePaper_20 : decode cL_losePaper 20 = .ok (.iconst 1, 1) := da_L_losePaper_0 (20, .iconst 1, 1) (List.mem_of_getElem? (i := 12) rfl)
theorem dL_losePaper_21 : decode cL_losePaper 21 = .ok (.ireturn, 1) := da_L_losePaper_0 (21, .ireturn, 1) (List.mem_of_getElem? (i := 13) rfl)
theorem dL_losePaper_22 : decode cL_losePaper 22 = .ok (.iconst 0, 1) := da_L_losePaper_0 (22, .iconst 0, 1) (List.mem_of_getElem? (i := 14) rfl)
theorem dL_losePaper_23 : decode cL_losePaper 23 = .ok (.ireturn, 1) := da_L_losePaper_0 (23, .ireturn, 1) (List.mem_of_getElem? (i := 15) rfl)
def dl_L_test_0 : List (Nat × Instr × Nat) := [(0, .aload_n 2, 1), (1, .iconst 0, 1), (2, .aload_n 0, 1), (3, .iload_n 1, 1), (4, .invokevirtual 54, 3), (7, .ifCond .eq 7, 3), (10, .lconst 1, 1), (11, .goto 4, 3), (14, .lconst 0, 1), (15, .lastore, 1), (16, .goto 6, 3), (19, .astore_n 3, 1), (20, .iconst 1, 1), (21, .ireturn, 1), (22, .iconst 0, 1), (23, .ireturn, 1)]
theorem da_L_test_0 : ∀ r ∈ dl_L_test_0, decode cL_test r.1 = .ok r.2 := by decide +kernel
theorem dL_test_0 : decode cL_test 0 = .ok (.aload_n 2, 1) := da_L_test_0 (0, .aload_n 2, 1) (List.mem_of_getElem? (i := 0) rfl)
theorem dL_test_1 : decode cL_test 1 = .ok (.iconst 0, 1) := da_L_test_0 (1, .iconst 0, 1) (List.mem_of_getElem? (i := 1) rfl)
theorem dL_test_2 : decode cL_test 2 = .ok (.aload_n 0, 1) := da_L_test_0 (2, .aload_n 0, 1) (List.mem_of_getElem? (i := 2) rfl)
theorem dL_test_3 : decode cL_test 3 = .ok (.iload_n 1, 1) := da_L_test_0 (3, .iload_n 1, 1) (List.mem_of_getElem? (i := 3) rfl)
theorem dL_test_4 : decode cL_test 4 = .ok (.invokevirtual 54, 3) := da_L_test_0 (4, .invokevirtual 54, 3) (List.mem_of_getElem? (i := 4) rfl)
theorem dL_test_7 : decode cL_test 7 = .ok (.ifCond .eq 7, 3) := da_L_test_0 (7, .ifCond .eq 7, 3) (List.mem_of_getElem? (i := 5) rfl)
theorem dL_test_10 : decode cL_test 10 = .ok (.lconst 1, 1) := da_L_test_0 (10, .lconst 1, 1) (List.mem_of_getElem? (i := 6) rfl)
theorem dL_test_11 : decode cL_test 11 = .ok (.goto 4, 3) := da_L_test_0 (11, .goto 4, 3) (List.mem_of_getElem? (i := 7) rfl)
theorem dL_test_14 : decode cL_test 14 = .ok (.lconst 0, 1) := da_L_test_0 (14, .lconst 0, 1) (List.mem_of_getElem? (i := 8) rfl)
theorem dL_test_15 : decode cL_test 15 = .ok (.lastore, 1) := da_L_test_0 (15, .lastore, 1) (List.mem_of_getElem? (i := 9) rfl)
theorem dL_test_16 : decode cL_test 16 = .ok (.goto 6, 3) := da_L_test_0 (16, .goto 6, 3) (List.mem_of_getElem? (i := 10) rfl)
theorem dL_test_19 : decode cL_test 19 = .ok (.astore_n 3, 1) := da_L_test_0 (19, .astore_n 3, 1) (List.mem_of_getElem? (i := 11) rfl)
theorem dL_test_20 : decode cL_test 20 = .ok (.iconst 1, 1) := da_L_test_0 (20, .iconst 1, 1) (List.mem_of_getElem? (i := 12) rfl)
theorem dL_test_21 : decode cL_test 21 = .ok (.ireturn, 1) := da_L_test_0 (21, .ireturn, 1) (List.mem_of_getElem? (i := 13) rfl)
theorem dL_test_22 : decode cL_test 22 = .ok (.iconst 0, 1) := da_L_test_0 (22, .iconst 0, 1) (List.mem_of_getElem? (i := 14) rfl)
theorem dL_test_23 : decode cL_test 23 = .ok (.ireturn, 1) := da_L_test_0 (23, .ireturn, 1) (List.mem_of_getElem? (i := 15) rfl)
def dl_L_give_0 : List (Nat × Instr × Nat) := [(0, .aload 4, 2), (2, .iconst 0, 1), (3, .aload_n 0, 1), (4, .iload_n 1, 1), (5, .iload_n 2, 1), (6, .iload_n 3, 1), (7, .invokevirtual 57, 3), (10, .i2l, 1), (11, .lastore, 1), (12, .goto 11, 3), (15, .astore 5, 2), (17, .iconst 1, 1), (18, .ireturn, 1), (19, .astore 5, 2), (21, .iconst 2, 1), (22, .ireturn, 1), (23, .iconst 0, 1), (24, .ireturn, 1)]
theorem da_L_give_0 : ∀ r ∈ dl_L_give_0, decode cL_give r.1 = .ok r.2 := by decide +kernel
theorem dL_give_0 : decode cL_give 0 = .ok (.aload 4, 2) := da_L_give_0 (0, .aload 4, 2) (List.mem_of_getElem? (i := 0) rfl)
theorem dL_give_2 : decode cL_give 2 = .ok (.iconst 0, 1) := da_L_give_0 (2, .iconst 0, 1) (List.mem_of_getElem? (i := 1) rfl)
theorem dL_give_3 : decode cL_give 3 = .ok (.aload_n 0, 1) := da_L_give_0 (3, .aload_n 0, 1) (List.mem_of_getElem? (i := 2) rfl)
theorem dL_give_4 : decode cL_give 4 = .ok (.iload_n 1, 1) := da_L_give_0 (4, .iload_n 1, 1) (List.mem_of_getElem? (i := 3) rfl)
theorem dL_give_5 : decode cL_give 5 = .ok (.iload_n 2, 1) := da_L_give_0 (5, .iload_n 2, 1) (List.mem_of_getElem? (i := 4) rfl)
theorem dL_give_6 : decode cL_give 6 = .ok (.iload_n 3, 1) := da_L_give_0 (6, .iload_n 3, 1) (List.mem_of_getElem? (i := 5) rfl)
theorem dL_give_7 : decode cL_give 7 = .ok (.invokevirtual 57, 3) := da_L_give_0 (7, .invokevirtual 57, 3) (List.mem_of_getElem? (i := 6) rfl)
theorem dL_give_10 : decode cL_give 10 = .ok (.i2l, 1) := da_L_give_0 (10, .i2l, 1) (List.mem_of_getElem? (i := 7) rfl)
theorem dL_give_11 : decode cL_give 11 = .ok (.lastore, 1) := da_L_give_0 (11, .lastore, 1) (List.mem_of_getElem? (i := 8) rfl)
theorem dL_give_12 : decode cL_give 12 = .ok (.goto 11, 3) := da_L_give_0 (12, .goto 11, 3) (List.mem_of_getElem? (i := 9) rfl)
theorem dL_give_15 : decode cL_give 15 = .ok (.astore 5, 2) := da_L_give_0 (15, .astore 5, 2) (List.mem_of_getElem? (i := 10) rfl)
theorem dL_give_17 : decode cL_give 17 = .ok (.iconst 1, 1) := da_L_give_0 (17, .iconst 1, 1) (List.mem_of_getElem? (i := 11) rfl)
theorem dL_give_18 : decode cL_give 18 = .ok (.ireturn, 1) := da_L_give_0 (18, .ireturn, 1) (List.mem_of_getElem? (i := 12) rfl)
theorem dL_give_19 : decode cL_give 19 = .ok (.astore 5, 2) := da_L_give_0 (19, .astore 5, 2) (List.mem_of_getElem? (i := 13) rfl)
theorem dL_give_21 : decode cL_give 21 = .ok (.iconst 2, 1) := da_L_give_0 (21, .iconst 2, 1) (List.mem_of_getElem? (i := 14) rfl)
theorem dL_give_22 : decode cL_give 22 = .ok (.ireturn, 1) := da_L_give_0 (22, .ireturn, 1) (List.mem_of_getElem? (i := 15) rfl)
theorem dL_give_23 : decode cL_give 23 = .ok (.iconst 0, 1) := da_L_give_0 (23, .iconst 0, 1) (List.mem_of_getElem? (i := 16) rfl)
theorem dL_give_24 : decode cL_give 24 = .ok (.ireturn, 1) := da_L_give_0 (24, .ireturn, 1) (List.mem_of_getElem? (i := 17) rfl)
def dl_L_heatOf_0 : List (Nat × Instr × Nat) := [(0, .aload_n 3, 1), (1, .iconst 0, 1), (2, .aload_n 0, 1), (3, .iload_n 1, 1), (4, .iload_n 2, 1), (5, .invokevirtual 60, 3), (8, .i2l, 1), (9, .lastore, 1), (10, .goto 11, 3), (13, .astore 4, 2), (15, .iconst 1, 1), (16, .ireturn, 1), (17, .astore 4, 2), (19, .iconst 2, 1), (20, .ireturn, 1), (21, .iconst 0, 1), (22, .ireturn, 1)]
theorem da_L_heatOf_0 : ∀ r ∈ dl_L_heatOf_0, decode cL_heatOf r.1 = .ok r.2 := by decide +kernel
theorem dL_heatOf_0 : decode cL_heatOf 0 = .ok (.aload_n 3, 1) := da_L_heatOf_0 (0, .aload_n 3, 1) (List.mem_of_getElem? (i := 0) rfl)
theorem dL_heatOf_1 : decode cL_heatOf 1 = .ok (.iconst 0, 1) := da_L_heatOf_0 (1, .iconst 0, 1) (List.mem_of_getElem? (i := 1) rfl)
theorem dL_heatOf_2 : decode cL_heatOf 2 = .ok (.aload_n 0, 1) := da_L_heatOf_0 (2, .aload_n 0, 1) (List.mem_of_getElem? (i := 2) rfl)
theorem dL_heatOf_3 : decode cL_heatOf 3 = .ok (.iload_n 1, 1) := da_L_heatOf_0 (3, .iload_n 1, 1) (List.mem_of_getElem? (i := 3) rfl)
theorem dL_heatOf_4 : decode cL_heatOf 4 = .ok (.iload_n 2, 1) := da_L_heatOf_0 (4, .iload_n 2, 1) (List.mem_of_getElem? (i := 4) rfl)
theorem dL_heatOf_5 : decode cL_heatOf 5 = .ok (.invokevirtual 60, 3) := da_L_heatOf_0 (5, .invokevirtual 60, 3) (List.mem_of_getElem? (i := 5) rfl)
theorem dL_heatOf_8 : decode cL_heatOf 8 = .ok (.i2l, 1) := da_L_heatOf_0 (8, .i2l, 1) (List.mem_of_getElem? (i := 6) rfl)
theorem dL_heatOf_9 : decode cL_heatOf 9 = .ok (.lastore, 1) := da_L_heatOf_0 (9, .lastore, 1) (List.mem_of_getElem? (i := 7) rfl)
theorem dL_heatOf_10 : decode cL_heatOf 10 = .ok (.goto 11, 3) := da_L_heatOf_0 (10, .goto 11, 3) (List.mem_of_getElem? (i := 8) rfl)
theorem dL_heatOf_13 : decode cL_heatOf 13 = .ok (.astore 4, 2) := da_L_heatOf_0 (13, .astore 4, 2) (List.mem_of_getElem? (i := 9) rfl)
theorem dL_heatOf_15 : decode cL_heatOf 15 = .ok (.iconst 1, 1) := da_L_heatOf_0 (15, .iconst 1, 1) (List.mem_of_getElem? (i := 10) rfl)
theorem dL_heatOf_16 : decode cL_heatOf 16 = .ok (.ireturn, 1) := da_L_heatOf_0 (16, .ireturn, 1) (List.mem_of_getElem? (i := 11) rfl)
theorem dL_heatOf_17 : decode cL_heatOf 17 = .ok (.astore 4, 2) := da_L_heatOf_0 (17, .astore 4, 2) (List.mem_of_getElem? (i := 12) rfl)
theorem dL_heatOf_19 : decode cL_heatOf 19 = .ok (.iconst 2, 1) := da_L_heatOf_0 (19, .iconst 2, 1) (List.mem_of_getElem? (i := 13) rfl)
theorem dL_heatOf_20 : decode cL_heatOf 20 = .ok (.ireturn, 1) := da_L_heatOf_0 (20, .ireturn, 1) (List.mem_of_getElem? (i := 14) rfl)
theorem dL_heatOf_21 : decode cL_heatOf 21 = .ok (.iconst 0, 1) := da_L_heatOf_0 (21, .iconst 0, 1) (List.mem_of_getElem? (i := 15) rfl)
theorem dL_heatOf_22 : decode cL_heatOf 22 = .ok (.ireturn, 1) := da_L_heatOf_0 (22, .ireturn, 1) (List.mem_of_getElem? (i := 16) rfl)
def dl_L_bestHeat_0 : List (Nat × Instr × Nat) := [(0, .aload 4, 2), (2, .iconst 0, 1), (3, .aload_n 0, 1), (4, .iload_n 1, 1), (5, .iload_n 2, 1), (6, .iload_n 3, 1), (7, .invokevirtual 65, 3), (10, .i2l, 1), (11, .lastore, 1), (12, .goto 15, 3), (15, .astore 5, 2), (17, .iconst 1, 1), (18, .ireturn, 1), (19, .astore 5, 2), (21, .iconst 2, 1), (22, .ireturn, 1), (23, .astore 5, 2), (25, .iconst 3, 1), (26, .ireturn, 1), (27, .iconst 0, 1), (28, .ireturn, 1)]
theorem da_L_bestHeat_0 : ∀ r ∈ dl_L_bestHeat_0, decode cL_bestHeat r.1 = .ok r.2 := by decide +kernel
theorem dL_bestHeat_0 : decode cL_bestHeat 0 = .ok (.aload 4, 2) := da_L_bestHeat_0 (0, .aload 4, 2) (List.mem_of_getElem? (i := 0) rfl)
theorem dL_bestHeat_2 : decode cL_bestHeat 2 = .ok (.iconst 0, 1) := da_L_bestHeat_0 (2, .iconst 0, 1) (List.mem_of_getElem? (i := 1) rfl)
theorem dL_bestHeat_3 : decode cL_bestHeat 3 = .ok (.aload_n 0, 1) := da_L_bestHeat_0 (3, .aload_n 0, 1) (List.mem_of_getElem? (i := 2) rfl)
theorem dL_bestHeat_4 : decode cL_bestHeat 4 = .ok (.iload_n 1, 1) := da_L_bestHeat_0 (4, .iload_n 1, 1) (List.mem_of_getElem? (i := 3) rfl)
theorem dL_bestHeat_5 : decode cL_bestHeat 5 = .ok (.iload_n 2, 1) := da_L_bestHeat_0 (5, .iload_n 2, 1) (List.mem_of_getElem? (i := 4) rfl)
theorem dL_bestHeat_6 : decode cL_bestHeat 6 = .ok (.iload_n 3, 1) := da_L_bestHeat_0 (6, .iload_n 3, 1) (List.mem_of_getElem? (i := 5) rfl)
theorem dL_bestHeat_7 : decode cL_bestHeat 7 = .ok (.invokevirtual 65, 3) := da_L_bestHeat_0 (7, .invokevirtual 65, 3) (List.mem_of_getElem? (i := 6) rfl)
theorem dL_bestHeat_10 : decode cL_bestHeat 10 = .ok (.i2l, 1) := da_L_bestHeat_0 (10, .i2l, 1) (List.mem_of_getElem? (i := 7) rfl)
theorem dL_bestHeat_11 : decode cL_bestHeat 11 = .ok (.lastore, 1) := da_L_bestHeat_0 (11, .lastore, 1) (List.mem_of_getElem? (i := 8) rfl)
theorem dL_bestHeat_12 : decode cL_bestHeat 12 = .ok (.goto 15, 3) := da_L_bestHeat_0 (12, .goto 15, 3) (List.mem_of_getElem? (i := 9) rfl)
theorem dL_bestHeat_15 : decode cL_bestHeat 15 = .ok (.astore 5, 2) := da_L_bestHeat_0 (15, .astore 5, 2) (List.mem_of_getElem? (i := 10) rfl)
theorem dL_bestHeat_17 : decode cL_bestHeat 17 = .ok (.iconst 1, 1) := da_L_bestHeat_0 (17, .iconst 1, 1) (List.mem_of_getElem? (i := 11) rfl)
theorem dL_bestHeat_18 : decode cL_bestHeat 18 = .ok (.ireturn, 1) := da_L_bestHeat_0 (18, .ireturn, 1) (List.mem_of_getElem? (i := 12) rfl)
theorem dL_bestHeat_19 : decode cL_bestHeat 19 = .ok (.astore 5, 2) := da_L_bestHeat_0 (19, .astore 5, 2) (List.mem_of_getElem? (i := 13) rfl)
theorem dL_bestHeat_21 : decode cL_bestHeat 21 = .ok (.iconst 2, 1) := da_L_bestHeat_0 (21, .iconst 2, 1) (List.mem_of_getElem? (i := 14) rfl)
theorem dL_bestHeat_22 : decode cL_bestHeat 22 = .ok (.ireturn, 1) := da_L_bestHeat_0 (22, .ireturn, 1) (List.mem_of_getElem? (i := 15) rfl)
theorem dL_bestHeat_23 : decode cL_bestHeat 23 = .ok (.astore 5, 2) := da_L_bestHeat_0 (23, .astore 5, 2) (List.mem_of_getElem? (i := 16) rfl)
theorem dL_bestHeat_25 : decode cL_bestHeat 25 = .ok (.iconst 3, 1) := da_L_bestHeat_0 (25, .iconst 3, 1) (List.mem_of_getElem? (i := 17) rfl)
theorem dL_bestHeat_26 : decode cL_bestHeat 26 = .ok (.ireturn, 1) := da_L_bestHeat_0 (26, .ireturn, 1) (List.mem_of_getElem? (i := 18) rfl)
theorem dL_bestHeat_27 : decode cL_bestHeat 27 = .ok (.iconst 0, 1) := da_L_bestHeat_0 (27, .iconst 0, 1) (List.mem_of_getElem? (i := 19) rfl)
theorem dL_bestHeat_28 : decode cL_bestHeat 28 = .ok (.ireturn, 1) := da_L_bestHeat_0 (28, .ireturn, 1) (List.mem_of_getElem? (i := 20) rfl)
def dl_L_addWelder_0 : List (Nat × Instr × Nat) := [(0, .aload_n 1, 1), (1, .iconst 0, 1), (2, .aload_n 0, 1), (3, .invokevirtual 68, 3), (6, .i2l, 1), (7, .lastore, 1), (8, .goto 6, 3), (11, .astore_n 2, 1), (12, .iconst 1, 1), (13, .ireturn, 1), (14, .iconst 0, 1), (15, .ireturn, 1)]
theorem da_L_addWelder_0 : ∀ r ∈ dl_L_addWelder_0, decode cL_addWelder r.1 = .ok r.2 := by decide +kernel
theorem dL_addWelder_0 : decode cL_addWelder 0 = .ok (.aload_n 1, 1) := da_L_addWelder_0 (0, .aload_n 1, 1) (List.mem_of_getElem? (i := 0) rfl)
theorem dL_addWelder_1 : decode cL_addWelder 1 = .ok (.iconst 0, 1) := da_L_addWelder_0 (1, .iconst 0, 1) (List.mem_of_getElem? (i := 1) rfl)
theorem dL_addWelder_2 : decode cL_addWelder 2 = .ok (.aload_n 0, 1) := da_L_addWelder_0 (2, .aload_n 0, 1) (List.mem_of_getElem? (i := 2) rfl)
theorem dL_addWelder_3 : decode cL_addWelder 3 = .ok (.invokevirtual 68, 3) := da_L_addWelder_0 (3, .invokevirtual 68, 3) (List.mem_of_getElem? (i := 3) rfl)
theorem dL_addWelder_6 : decode cL_addWelder 6 = .ok (.i2l, 1) := da_L_addWelder_0 (6, .i2l, 1) (List.mem_of_getElem? (i := 4) rfl)
theorem dL_addWelder_7 : decode cL_addWelder 7 = .ok (.lastore, 1) := da_L_addWelder_0 (7, .lastore, 1) (List.mem_of_getElem? (i := 5) rfl)
theorem dL_addWelder_8 : decode cL_addWelder 8 = .ok (.goto 6, 3) := da_L_addWelder_0 (8, .goto 6, 3) (List.mem_of_getElem? (i := 6) rfl)
theorem dL_addWelder_11 : decode cL_addWelder 11 = .ok (.astore_n 2, 1) := da_L_addWelder_0 (11, .astore_n 2, 1) (List.mem_of_getElem? (i := 7) rfl)
theorem dL_addWelder_12 : decode cL_addWelder 12 = .ok (.iconst 1, 1) := da_L_addWelder_0 (12, .iconst 1, 1) (List.mem_of_getElem? (i := 8) rfl)
theorem dL_addWelder_13 : decode cL_addWelder 13 = .ok (.ireturn, 1) := da_L_addWelder_0 (13, .ireturn, 1) (List.mem_of_getElem? (i := 9) rfl)
theorem dL_addWelder_14 : decode cL_addWelder 14 = .ok (.iconst 0, 1) := da_L_addWelder_0 (14, .iconst 0, 1) (List.mem_of_getElem? (i := 10) rfl)
theorem dL_addWelder_15 : decode cL_addWelder 15 = .ok (.ireturn, 1) := da_L_addWelder_0 (15, .ireturn, 1) (List.mem_of_getElem? (i := 11) rfl)
def dl_L_ticket_0 : List (Nat × Instr × Nat) := [(0, .aload 4, 2), (2, .iconst 0, 1), (3, .aload_n 0, 1), (4, .iload_n 1, 1), (5, .iload_n 2, 1), (6, .iload_n 3, 1), (7, .invokevirtual 72, 3), (10, .i2l, 1), (11, .lastore, 1), (12, .goto 11, 3), (15, .astore 5, 2), (17, .iconst 1, 1), (18, .ireturn, 1), (19, .astore 5, 2), (21, .iconst 2, 1), (22, .ireturn, 1), (23, .iconst 0, 1), (24, .ireturn, 1)]
theorem da_L_ticket_0 : ∀ r ∈ dl_L_ticket_0, decode cL_ticket r.1 = .ok r.2 := by decide +kernel
theorem dL_ticket_0 : decode cL_ticket 0 = .ok (.aload 4, 2) := da_L_ticket_0 (0, .aload 4, 2) (List.mem_of_getElem? (i := 0) rfl)
theorem dL_ticket_2 : decode cL_ticket 2 = .ok (.iconst 0, 1) := da_L_ticket_0 (2, .iconst 0, 1) (List.mem_of_getElem? (i := 1) rfl)
theorem dL_ticket_3 : decode cL_ticket 3 = .ok (.aload_n 0, 1) := da_L_ticket_0 (3, .aload_n 0, 1) (List.mem_of_getElem? (i := 2) rfl)
theorem dL_ticket_4 : decode cL_ticket 4 = .ok (.iload_n 1, 1) := da_L_ticket_0 (4, .iload_n 1, 1) (List.mem_of_getElem? (i := 3) rfl)
theorem dL_ticket_5 : decode cL_ticket 5 = .ok (.iload_n 2, 1) := da_L_ticket_0 (5, .iload_n 2, 1) (List.mem_of_getElem? (i := 4) rfl)
theorem dL_ticket_6 : decode cL_ticket 6 = .ok (.iload_n 3, 1) := da_L_ticket_0 (6, .iload_n 3, 1) (List.mem_of_getElem? (i := 5) rfl)
theorem dL_ticket_7 : decode cL_ticket 7 = .ok (.invokevirtual 72, 3) := da_L_ticket_0 (7, .invokevirtual 72, 3) (List.mem_of_getElem? (i := 6) rfl)
theorem dL_ticket_10 : decode cL_ticket 10 = .ok (.i2l, 1) := da_L_ticket_0 (10, .i2l, 1) (List.mem_of_getElem? (i := 7) rfl)
theorem dL_ticket_11 : decode cL_ticket 11 = .ok (.lastore, 1) := da_L_ticket_0 (11, .lastore, 1) (List.mem_of_getElem? (i := 8) rfl)
theorem dL_ticket_12 : decode cL_ticket 12 = .ok (.goto 11, 3) := da_L_ticket_0 (12, .goto 11, 3) (List.mem_of_getElem? (i := 9) rfl)
theorem dL_ticket_15 : decode cL_ticket 15 = .ok (.astore 5, 2) := da_L_ticket_0 (15, .astore 5, 2) (List.mem_of_getElem? (i := 10) rfl)
theorem dL_ticket_17 : decode cL_ticket 17 = .ok (.iconst 1, 1) := da_L_ticket_0 (17, .iconst 1, 1) (List.mem_of_getElem? (i := 11) rfl)
theorem dL_ticket_18 : decode cL_ticket 18 = .ok (.ireturn, 1) := da_L_ticket_0 (18, .ireturn, 1) (List.mem_of_getElem? (i := 12) rfl)
theorem dL_ticket_19 : decode cL_ticket 19 = .ok (.astore 5, 2) := da_L_ticket_0 (19, .astore 5, 2) (List.mem_of_getElem? (i := 13) rfl)
theorem dL_ticket_21 : decode cL_ticket 21 = .ok (.iconst 2, 1) := da_L_ticket_0 (21, .iconst 2, 1) (List.mem_of_getElem? (i := 14) rfl)
theorem dL_ticket_22 : decode cL_ticket 22 = .ok (.ireturn, 1) := da_L_ticket_0 (22, .ireturn, 1) (List.mem_of_getElem? (i := 15) rfl)
theorem dL_ticket_23 : decode cL_ticket 23 = .ok (.iconst 0, 1) := da_L_ticket_0 (23, .iconst 0, 1) (List.mem_of_getElem? (i := 16) rfl)
theorem dL_ticket_24 : decode cL_ticket 24 = .ok (.ireturn, 1) := da_L_ticket_0 (24, .ireturn, 1) (List.mem_of_getElem? (i := 17) rfl)
def dl_L_mayWeld_0 : List (Nat × Instr × Nat) := [(0, .aload 4, 2), (2, .iconst 0, 1), (3, .aload_n 0, 1), (4, .iload_n 1, 1), (5, .iload_n 2, 1), (6, .iload_n 3, 1), (7, .invokevirtual 75, 3), (10, .ifCond .eq 7, 3), (13, .lconst 1, 1), (14, .goto 4, 3), (17, .lconst 0, 1), (18, .lastore, 1), (19, .goto 7, 3), (22, .astore 5, 2), (24, .iconst 1, 1), (25, .ireturn, 1), (26, .iconst 0, 1), (27, .ireturn, 1)]
theorem da_L_mayWeld_0 : ∀ r ∈ dl_L_mayWeld_0, decode cL_mayWeld r.1 = .ok r.2 := by decide +kernel
theorem dL_mayWeld_0 : decode cL_mayWeld 0 = .ok (.aload 4, 2) := da_L_mayWeld_0 (0, .aload 4, 2) (List.mem_of_getElem? (i := 0) rfl)
theorem dL_mayWeld_2 : decode cL_mayWeld 2 = .ok (.iconst 0, 1) := da_L_mayWeld_0 (2, .iconst 0, 1) (List.mem_of_getElem? (i := 1) rfl)
theorem dL_mayWeld_3 : decode cL_mayWeld 3 = .ok (.aload_n 0, 1) := da_L_mayWeld_0 (3, .aload_n 0, 1) (List.mem_of_getElem? (i := 2) rfl)
theorem dL_mayWeld_4 : decode cL_mayWeld 4 = .ok (.iload_n 1, 1) := da_L_mayWeld_0 (4, .iload_n 1, 1) (List.mem_of_getElem? (i := 3) rfl)
theorem dL_mayWeld_5 : decode cL_mayWeld 5 = .ok (.iload_n 2, 1) := da_L_mayWeld_0 (5, .iload_n 2, 1) (List.mem_of_getElem? (i := 4) rfl)
theorem dL_mayWeld_6 : decode cL_mayWeld 6 = .ok (.iload_n 3, 1) := da_L_mayWeld_0 (6, .iload_n 3, 1) (List.mem_of_getElem? (i := 5) rfl)
theorem dL_mayWeld_7 : decode cL_mayWeld 7 = .ok (.invokevirtual 75, 3) := da_L_mayWeld_0 (7, .invokevirtual 75, 3) (List.mem_of_getElem? (i := 6) rfl)
theorem dL_mayWeld_10 : decode cL_mayWeld 10 = .ok (.ifCond .eq 7, 3) := da_L_mayWeld_0 (10, .ifCond .eq 7, 3) (List.mem_of_getElem? (i := 7) rfl)
theorem dL_mayWeld_13 : decode cL_mayWeld 13 = .ok (.lconst 1, 1) := da_L_mayWeld_0 (13, .lconst 1, 1) (List.mem_of_getElem? (i := 8) rfl)
theorem dL_mayWeld_14 : decode cL_mayWeld 14 = .ok (.goto 4, 3) := da_L_mayWeld_0 (14, .goto 4, 3) (List.mem_of_getElem? (i := 9) rfl)
theorem dL_mayWeld_17 : decode cL_mayWeld 17 = .ok (.lconst 0, 1) := da_L_mayWeld_0 (17, .lconst 0, 1) (List.mem_of_getElem? (i := 10) rfl)
theorem dL_mayWeld_18 : decode cL_mayWeld 18 = .ok (.lastore, 1) := da_L_mayWeld_0 (18, .lastore, 1) (List.mem_of_getElem? (i := 11) rfl)
theorem dL_mayWeld_19 : decode cL_mayWeld 19 = .ok (.goto 7, 3) := da_L_mayWeld_0 (19, .goto 7, 3) (List.mem_of_getElem? (i := 12) rfl)
theorem dL_mayWeld_22 : decode cL_mayWeld 22 = .ok (.astore 5, 2) := da_L_mayWeld_0 (22, .astore 5, 2) (List.mem_of_getElem? (i := 13) rfl)
theorem dL_mayWeld_24 : decode cL_mayWeld 24 = .ok (.iconst 1, 1) := da_L_mayWeld_0 (24, .iconst 1, 1) (List.mem_of_getElem? (i := 14) rfl)
theorem dL_mayWeld_25 : decode cL_mayWeld 25 = .ok (.ireturn, 1) := da_L_mayWeld_0 (25, .ireturn, 1) (List.mem_of_getElem? (i := 15) rfl)
theorem dL_mayWeld_26 : decode cL_mayWeld 26 = .ok (.iconst 0, 1) := da_L_mayWeld_0 (26, .iconst 0, 1) (List.mem_of_getElem? (i := 16) rfl)
theorem dL_mayWeld_27 : decode cL_mayWeld 27 = .ok (.ireturn, 1) := da_L_mayWeld_0 (27, .ireturn, 1) (List.mem_of_getElem? (i := 17) rfl)
def dl_L_weld_0 : List (Nat × Instr × Nat) := [(0, .aload 4, 2), (2, .iconst 0, 1), (3, .aload_n 0, 1), (4, .iload_n 1, 1), (5, .iload_n 2, 1), (6, .iload_n 3, 1), (7, .invokevirtual 79, 3), (10, .i2l, 1), (11, .lastore, 1), (12, .goto 11, 3), (15, .astore 5, 2), (17, .iconst 1, 1), (18, .ireturn, 1), (19, .astore 5, 2), (21, .iconst 2, 1), (22, .ireturn, 1), (23, .iconst 0, 1), (24, .ireturn, 1)]
theorem da_L_weld_0 : ∀ r ∈ dl_L_weld_0, decode cL_weld r.1 = .ok r.2 := by decide +kernel
theorem dL_weld_0 : decode cL_weld 0 = .ok (.aload 4, 2) := da_L_weld_0 (0, .aload 4, 2) (List.mem_of_getElem? (i := 0) rfl)
theorem dL_weld_2 : decode cL_weld 2 = .ok (.iconst 0, 1) := da_L_weld_0 (2, .iconst 0, 1) (List.mem_of_getElem? (i := 1) rfl)
theorem dL_weld_3 : decode cL_weld 3 = .ok (.aload_n 0, 1) := da_L_weld_0 (3, .aload_n 0, 1) (List.mem_of_getElem? (i := 2) rfl)
theorem dL_weld_4 : decode cL_weld 4 = .ok (.iload_n 1, 1) := da_L_weld_0 (4, .iload_n 1, 1) (List.mem_of_getElem? (i := 3) rfl)
theorem dL_weld_5 : decode cL_weld 5 = .ok (.iload_n 2, 1) := da_L_weld_0 (5, .iload_n 2, 1) (List.mem_of_getElem? (i := 4) rfl)
theorem dL_weld_6 : decode cL_weld 6 = .ok (.iload_n 3, 1) := da_L_weld_0 (6, .iload_n 3, 1) (List.mem_of_getElem? (i := 5) rfl)
theorem dL_weld_7 : decode cL_weld 7 = .ok (.invokevirtual 79, 3) := da_L_weld_0 (7, .invokevirtual 79, 3) (List.mem_of_getElem? (i := 6) rfl)
theorem dL_weld_10 : decode cL_weld 10 = .ok (.i2l, 1) := da_L_weld_0 (10, .i2l, 1) (List.mem_of_getElem? (i := 7) rfl)
theorem dL_weld_11 : decode cL_weld 11 = .ok (.lastore, 1) := da_L_weld_0 (11, .lastore, 1) (List.mem_of_getElem? (i := 8) rfl)
theorem dL_weld_12 : decode cL_weld 12 = .ok (.goto 11, 3) := da_L_weld_0 (12, .goto 11, 3) (List.mem_of_getElem? (i := 9) rfl)
theorem dL_weld_15 : decode cL_weld 15 = .ok (.astore 5, 2) := da_L_weld_0 (15, .astore 5, 2) (List.mem_of_getElem? (i := 10) rfl)
theorem dL_weld_17 : decode cL_weld 17 = .ok (.iconst 1, 1) := da_L_weld_0 (17, .iconst 1, 1) (List.mem_of_getElem? (i := 11) rfl)
theorem dL_weld_18 : decode cL_weld 18 = .ok (.ireturn, 1) := da_L_weld_0 (18, .ireturn, 1) (List.mem_of_getElem? (i := 12) rfl)
theorem dL_weld_19 : decode cL_weld 19 = .ok (.astore 5, 2) := da_L_weld_0 (19, .astore 5, 2) (List.mem_of_getElem? (i := 13) rfl)
theorem dL_weld_21 : decode cL_weld 21 = .ok (.iconst 2, 1) := da_L_weld_0 (21, .iconst 2, 1) (List.mem_of_getElem? (i := 14) rfl)
theorem dL_weld_22 : decode cL_weld 22 = .ok (.ireturn, 1) := da_L_weld_0 (22, .ireturn, 1) (List.mem_of_getElem? (i := 15) rfl)
theorem dL_weld_23 : decode cL_weld 23 = .ok (.iconst 0, 1) := da_L_weld_0 (23, .iconst 0, 1) (List.mem_of_getElem? (i := 16) rfl)
theorem dL_weld_24 : decode cL_weld 24 = .ok (.ireturn, 1) := da_L_weld_0 (24, .ireturn, 1) (List.mem_of_getElem? (i := 17) rfl)
def dl_L_look_0 : List (Nat × Instr × Nat) := [(0, .aload 4, 2), (2, .iconst 0, 1), (3, .aload_n 0, 1), (4, .iload_n 1, 1), (5, .iload_n 2, 1), (6, .iload_n 3, 1), (7, .invokevirtual 82, 3), (10, .i2l, 1), (11, .lastore, 1), (12, .goto 11, 3), (15, .astore 5, 2), (17, .iconst 1, 1), (18, .ireturn, 1), (19, .astore 5, 2), (21, .iconst 2, 1), (22, .ireturn, 1), (23, .iconst 0, 1), (24, .ireturn, 1)]
theorem da_L_look_0 : ∀ r ∈ dl_L_look_0, decode cL_look r.1 = .ok r.2 := by decide +kernel
theorem dL_look_0 : decode cL_look 0 = .ok (.aload 4, 2) := da_L_look_0 (0, .aload 4, 2) (List.mem_of_getElem? (i := 0) rfl)
theorem dL_look_2 : decode cL_look 2 = .ok (.iconst 0, 1) := da_L_look_0 (2, .iconst 0, 1) (List.mem_of_getElem? (i := 1) rfl)
theorem dL_look_3 : decode cL_look 3 = .ok (.aload_n 0, 1) := da_L_look_0 (3, .aload_n 0, 1) (List.mem_of_getElem? (i := 2) rfl)
theorem dL_look_4 : decode cL_look 4 = .ok (.iload_n 1, 1) := da_L_look_0 (4, .iload_n 1, 1) (List.mem_of_getElem? (i := 3) rfl)
theorem dL_look_5 : decode cL_look 5 = .ok (.iload_n 2, 1) := da_L_look_0 (5, .iload_n 2, 1) (List.mem_of_getElem? (i := 4) rfl)
theorem dL_look_6 : decode cL_look 6 = .ok (.iload_n 3, 1) := da_L_look_0 (6, .iload_n 3, 1) (List.mem_of_getElem? (i := 5) rfl)
theorem dL_look_7 : decode cL_look 7 = .ok (.invokevirtual 82, 3) := da_L_look_0 (7, .invokevirtual 82, 3) (List.mem_of_getElem? (i := 6) rfl)
theorem dL_look_10 : decode cL_look 10 = .ok (.i2l, 1) := da_L_look_0 (10, .i2l, 1) (List.mem_of_getElem? (i := 7) rfl)
theorem dL_look_11 : decode cL_look 11 = .ok (.lastore, 1) := da_L_look_0 (11, .lastore, 1) (List.mem_of_getElem? (i := 8) rfl)
theorem dL_look_12 : decode cL_look 12 = .ok (.goto 11, 3) := da_L_look_0 (12, .goto 11, 3) (List.mem_of_getElem? (i := 9) rfl)
theorem dL_look_15 : decode cL_look 15 = .ok (.astore 5, 2) := da_L_look_0 (15, .astore 5, 2) (List.mem_of_getElem? (i := 10) rfl)
theorem dL_look_17 : decode cL_look 17 = .ok (.iconst 1, 1) := da_L_look_0 (17, .iconst 1, 1) (List.mem_of_getElem? (i := 11) rfl)
theorem dL_look_18 : decode cL_look 18 = .ok (.ireturn, 1) := da_L_look_0 (18, .ireturn, 1) (List.mem_of_getElem? (i := 12) rfl)
theorem dL_look_19 : decode cL_look 19 = .ok (.astore 5, 2) := da_L_look_0 (19, .astore 5, 2) (List.mem_of_getElem? (i := 13) rfl)
theorem dL_look_21 : decode cL_look 21 = .ok (.iconst 2, 1) := da_L_look_0 (21, .iconst 2, 1) (List.mem_of_getElem? (i := 14) rfl)
theorem dL_look_22 : decode cL_look 22 = .ok (.ireturn, 1) := da_L_look_0 (22, .ireturn, 1) (List.mem_of_getElem? (i := 15) rfl)
theorem dL_look_23 : decode cL_look 23 = .ok (.iconst 0, 1) := da_L_look_0 (23, .iconst 0, 1) (List.mem_of_getElem? (i := 16) rfl)
theorem dL_look_24 : decode cL_look 24 = .ok (.ireturn, 1) := da_L_look_0 (24, .ireturn, 1) (List.mem_of_getElem? (i := 17) rfl)
def dl_L_repair_0 : List (Nat × Instr × Nat) := [(0, .aload 4, 2), (2, .iconst 0, 1), (3, .aload_n 0, 1), (4, .iload_n 1, 1), (5, .iload_n 2, 1), (6, .iload_n 3, 1), (7, .invokevirtual 86, 3), (10, .i2l, 1), (11, .lastore, 1), (12, .goto 11, 3), (15, .astore 5, 2), (17, .iconst 1, 1), (18, .ireturn, 1), (19, .astore 5, 2), (21, .iconst 2, 1), (22, .ireturn, 1), (23, .iconst 0, 1), (24, .ireturn, 1)]
theorem da_L_repair_0 : ∀ r ∈ dl_L_repair_0, decode cL_repair r.1 = .ok r.2 := by decide +kernel
theorem dL_repair_0 : decode cL_repair 0 = .ok (.aload 4, 2) := da_L_repair_0 (0, .aload 4, 2) (List.mem_of_getElem? (i := 0) rfl)
theorem dL_repair_2 : decode cL_repair 2 = .ok (.iconst 0, 1) := da_L_repair_0 (2, .iconst 0, 1) (List.mem_of_getElem? (i := 1) rfl)
theorem dL_repair_3 : decode cL_repair 3 = .ok (.aload_n 0, 1) := da_L_repair_0 (3, .aload_n 0, 1) (List.mem_of_getElem? (i := 2) rfl)
theorem dL_repair_4 : decode cL_repair 4 = .ok (.iload_n 1, 1) := da_L_repair_0 (4, .iload_n 1, 1) (List.mem_of_getElem? (i := 3) rfl)
theorem dL_repair_5 : decode cL_repair 5 = .ok (.iload_n 2, 1) := da_L_repair_0 (5, .iload_n 2, 1) (List.mem_of_getElem? (i := 4) rfl)
theorem dL_repair_6 : decode cL_repair 6 = .ok (.iload_n 3, 1) := da_L_repair_0 (6, .iload_n 3, 1) (List.mem_of_getElem? (i := 5) rfl)
theorem dL_repair_7 : decode cL_repair 7 = .ok (.invokevirtual 86, 3) := da_L_repair_0 (7, .invokevirtual 86, 3) (List.mem_of_getElem? (i := 6) rfl)
theorem dL_repair_10 : decode cL_repair 10 = .ok (.i2l, 1) := da_L_repair_0 (10, .i2l, 1) (List.mem_of_getElem? (i := 7) rfl)
theorem dL_repair_11 : decode cL_repair 11 = .ok (.lastore, 1) := da_L_repair_0 (11, .lastore, 1) (List.mem_of_getElem? (i := 8) rfl)
theorem dL_repair_12 : decode cL_repair 12 = .ok (.goto 11, 3) := da_L_repair_0 (12, .goto 11, 3) (List.mem_of_getElem? (i := 9) rfl)
theorem dL_repair_15 : decode cL_repair 15 = .ok (.astore 5, 2) := da_L_repair_0 (15, .astore 5, 2) (List.mem_of_getElem? (i := 10) rfl)
theorem dL_repair_17 : decode cL_repair 17 = .ok (.iconst 1, 1) := da_L_repair_0 (17, .iconst 1, 1) (List.mem_of_getElem? (i := 11) rfl)
theorem dL_repair_18 : decode cL_repair 18 = .ok (.ireturn, 1) := da_L_repair_0 (18, .ireturn, 1) (List.mem_of_getElem? (i := 12) rfl)
theorem dL_repair_19 : decode cL_repair 19 = .ok (.astore 5, 2) := da_L_repair_0 (19, .astore 5, 2) (List.mem_of_getElem? (i := 13) rfl)
theorem dL_repair_21 : decode cL_repair 21 = .ok (.iconst 2, 1) := da_L_repair_0 (21, .iconst 2, 1) (List.mem_of_getElem? (i := 14) rfl)
theorem dL_repair_22 : decode cL_repair 22 = .ok (.ireturn, 1) := da_L_repair_0 (22, .ireturn, 1) (List.mem_of_getElem? (i := 15) rfl)
theorem dL_repair_23 : decode cL_repair 23 = .ok (.iconst 0, 1) := da_L_repair_0 (23, .iconst 0, 1) (List.mem_of_getElem? (i := 16) rfl)
theorem dL_repair_24 : decode cL_repair 24 = .ok (.ireturn, 1) := da_L_repair_0 (24, .ireturn, 1) (List.mem_of_getElem? (i := 17) rfl)
def dl_L_cutOut_0 : List (Nat × Instr × Nat) := [(0, .aload_n 3, 1), (1, .iconst 0, 1), (2, .aload_n 0, 1), (3, .iload_n 1, 1), (4, .iload_n 2, 1), (5, .invokevirtual 89, 3), (8, .i2l, 1), (9, .lastore, 1), (10, .goto 11, 3), (13, .astore 4, 2), (15, .iconst 1, 1), (16, .ireturn, 1), (17, .astore 4, 2), (19, .iconst 2, 1), (20, .ireturn, 1), (21, .iconst 0, 1), (22, .ireturn, 1)]
theorem da_L_cutOut_0 : ∀ r ∈ dl_L_cutOut_0, decode cL_cutOut r.1 = .ok r.2 := by decide +kernel
theorem dL_cutOut_0 : decode cL_cutOut 0 = .ok (.aload_n 3, 1) := da_L_cutOut_0 (0, .aload_n 3, 1) (List.mem_of_getElem? (i := 0) rfl)
theorem dL_cutOut_1 : decode cL_cutOut 1 = .ok (.iconst 0, 1) := da_L_cutOut_0 (1, .iconst 0, 1) (List.mem_of_getElem? (i := 1) rfl)
theorem dL_cutOut_2 : decode cL_cutOut 2 = .ok (.aload_n 0, 1) := da_L_cutOut_0 (2, .aload_n 0, 1) (List.mem_of_getElem? (i := 2) rfl)
theorem dL_cutOut_3 : decode cL_cutOut 3 = .ok (.iload_n 1, 1) := da_L_cutOut_0 (3, .iload_n 1, 1) (List.mem_of_getElem? (i := 3) rfl)
theorem dL_cutOut_4 : decode cL_cutOut 4 = .ok (.iload_n 2, 1) := da_L_cutOut_0 (4, .iload_n 2, 1) (List.mem_of_getElem? (i := 4) rfl)
theorem dL_cutOut_5 : decode cL_cutOut 5 = .ok (.invokevirtual 89, 3) := da_L_cutOut_0 (5, .invokevirtual 89, 3) (List.mem_of_getElem? (i := 5) rfl)
theorem dL_cutOut_8 : decode cL_cutOut 8 = .ok (.i2l, 1) := da_L_cutOut_0 (8, .i2l, 1) (List.mem_of_getElem? (i := 6) rfl)
theorem dL_cutOut_9 : decode cL_cutOut 9 = .ok (.lastore, 1) := da_L_cutOut_0 (9, .lastore, 1) (List.mem_of_getElem? (i := 7) rfl)
theorem dL_cutOut_10 : decode cL_cutOut 10 = .ok (.goto 11, 3) := da_L_cutOut_0 (10, .goto 11, 3) (List.mem_of_getElem? (i := 8) rfl)
theorem dL_cutOut_13 : decode cL_cutOut 13 = .ok (.astore 4, 2) := da_L_cutOut_0 (13, .astore 4, 2) (List.mem_of_getElem? (i := 9) rfl)
theorem dL_cutOut_15 : decode cL_cutOut 15 = .ok (.iconst 1, 1) := da_L_cutOut_0 (15, .iconst 1, 1) (List.mem_of_getElem? (i := 10) rfl)
theorem dL_cutOut_16 : decode cL_cutOut 16 = .ok (.ireturn, 1) := da_L_cutOut_0 (16, .ireturn, 1) (List.mem_of_getElem? (i := 11) rfl)
theorem dL_cutOut_17 : decode cL_cutOut 17 = .ok (.astore 4, 2) := da_L_cutOut_0 (17, .astore 4, 2) (List.mem_of_getElem? (i := 12) rfl)
theorem dL_cutOut_19 : decode cL_cutOut 19 = .ok (.iconst 2, 1) := da_L_cutOut_0 (19, .iconst 2, 1) (List.mem_of_getElem? (i := 13) rfl)
theorem dL_cutOut_20 : decode cL_cutOut 20 = .ok (.ireturn, 1) := da_L_cutOut_0 (20, .ireturn, 1) (List.mem_of_getElem? (i := 14) rfl)
theorem dL_cutOut_21 : decode cL_cutOut 21 = .ok (.iconst 0, 1) := da_L_cutOut_0 (21, .iconst 0, 1) (List.mem_of_getElem? (i := 15) rfl)
theorem dL_cutOut_22 : decode cL_cutOut 22 = .ok (.ireturn, 1) := da_L_cutOut_0 (22, .ireturn, 1) (List.mem_of_getElem? (i := 16) rfl)
def dl_L_joint_0 : List (Nat × Instr × Nat) := [(0, .aload_n 3, 1), (1, .iconst 0, 1), (2, .aload_n 0, 1), (3, .iload_n 1, 1), (4, .iload_n 2, 1), (5, .invokevirtual 92, 3), (8, .i2l, 1), (9, .lastore, 1), (10, .goto 7, 3), (13, .astore 4, 2), (15, .iconst 1, 1), (16, .ireturn, 1), (17, .iconst 0, 1), (18, .ireturn, 1)]
theorem da_L_joint_0 : ∀ r ∈ dl_L_joint_0, decode cL_joint r.1 = .ok r.2 := by decide +kernel
theorem dL_joint_0 : decode cL_joint 0 = .ok (.aload_n 3, 1) := da_L_joint_0 (0, .aload_n 3, 1) (List.mem_of_getElem? (i := 0) rfl)
theorem dL_joint_1 : decode cL_joint 1 = .ok (.iconst 0, 1) := da_L_joint_0 (1, .iconst 0, 1) (List.mem_of_getElem? (i := 1) rfl)
theorem dL_joint_2 : decode cL_joint 2 = .ok (.aload_n 0, 1) := da_L_joint_0 (2, .aload_n 0, 1) (List.mem_of_getElem? (i := 2) rfl)
theorem dL_joint_3 : decode cL_joint 3 = .ok (.iload_n 1, 1) := da_L_joint_0 (3, .iload_n 1, 1) (List.mem_of_getElem? (i := 3) rfl)
theorem dL_joint_4 : decode cL_joint 4 = .ok (.iload_n 2, 1) := da_L_joint_0 (4, .iload_n 2, 1) (List.mem_of_getElem? (i := 4) rfl)
theorem dL_joint_5 : decode cL_joint 5 = .ok (.invokevirtual 92, 3) := da_L_joint_0 (5, .invokevirtual 92, 3) (List.mem_of_getElem? (i := 5) rfl)
theorem dL_joint_8 : decode cL_joint 8 = .ok (.i2l, 1) := da_L_joint_0 (8, .i2l, 1) (List.mem_of_getElem? (i := 6) rfl)
theorem dL_joint_9 : decode cL_joint 9 = .ok (.lastore, 1) := da_L_joint_0 (9, .lastore, 1) (List.mem_of_getElem? (i := 7) rfl)
theorem dL_joint_10 : decode cL_joint 10 = .ok (.goto 7, 3) := da_L_joint_0 (10, .goto 7, 3) (List.mem_of_getElem? (i := 8) rfl)
theorem dL_joint_13 : decode cL_joint 13 = .ok (.astore 4, 2) := da_L_joint_0 (13, .astore 4, 2) (List.mem_of_getElem? (i := 9) rfl)
theorem dL_joint_15 : decode cL_joint 15 = .ok (.iconst 1, 1) := da_L_joint_0 (15, .iconst 1, 1) (List.mem_of_getElem? (i := 10) rfl)
theorem dL_joint_16 : decode cL_joint 16 = .ok (.ireturn, 1) := da_L_joint_0 (16, .ireturn, 1) (List.mem_of_getElem? (i := 11) rfl)
theorem dL_joint_17 : decode cL_joint 17 = .ok (.iconst 0, 1) := da_L_joint_0 (17, .iconst 0, 1) (List.mem_of_getElem? (i := 12) rfl)
theorem dL_joint_18 : decode cL_joint 18 = .ok (.ireturn, 1) := da_L_joint_0 (18, .ireturn, 1) (List.mem_of_getElem? (i := 13) rfl)
def dl_L_welderOf_0 : List (Nat × Instr × Nat) := [(0, .aload_n 3, 1), (1, .iconst 0, 1), (2, .aload_n 0, 1), (3, .iload_n 1, 1), (4, .iload_n 2, 1), (5, .invokevirtual 96, 3), (8, .i2l, 1), (9, .lastore, 1), (10, .goto 11, 3), (13, .astore 4, 2), (15, .iconst 1, 1), (16, .ireturn, 1), (17, .astore 4, 2), (19, .iconst 2, 1), (20, .ireturn, 1), (21, .iconst 0, 1), (22, .ireturn, 1)]
theorem da_L_welderOf_0 : ∀ r ∈ dl_L_welderOf_0, decode cL_welderOf r.1 = .ok r.2 := by decide +kernel
theorem dL_welderOf_0 : decode cL_welderOf 0 = .ok (.aload_n 3, 1) := da_L_welderOf_0 (0, .aload_n 3, 1) (List.mem_of_getElem? (i := 0) rfl)
theorem dL_welderOf_1 : decode cL_welderOf 1 = .ok (.iconst 0, 1) := da_L_welderOf_0 (1, .iconst 0, 1) (List.mem_of_getElem? (i := 1) rfl)
theorem dL_welderOf_2 : decode cL_welderOf 2 = .ok (.aload_n 0, 1) := da_L_welderOf_0 (2, .aload_n 0, 1) (List.mem_of_getElem? (i := 2) rfl)
theorem dL_welderOf_3 : decode cL_welderOf 3 = .ok (.iload_n 1, 1) := da_L_welderOf_0 (3, .iload_n 1, 1) (List.mem_of_getElem? (i := 3) rfl)
theorem dL_welderOf_4 : decode cL_welderOf 4 = .ok (.iload_n 2, 1) := da_L_welderOf_0 (4, .iload_n 2, 1) (List.mem_of_getElem? (i := 4) rfl)
theorem dL_welderOf_5 : decode cL_welderOf 5 = .ok (.invokevirtual 96, 3) := da_L_welderOf_0 (5, .invokevirtual 96, 3) (List.mem_of_getElem? (i := 5) rfl)
theorem dL_welderOf_8 : decode cL_welderOf 8 = .ok (.i2l, 1) := da_L_welderOf_0 (8, .i2l, 1) (List.mem_of_getElem? (i := 6) rfl)
theorem dL_welderOf_9 : decode cL_welderOf 9 = .ok (.lastore, 1) := da_L_welderOf_0 (9, .lastore, 1) (List.mem_of_getElem? (i := 7) rfl)
theorem dL_welderOf_10 : decode cL_welderOf 10 = .ok (.goto 11, 3) := da_L_welderOf_0 (10, .goto 11, 3) (List.mem_of_getElem? (i := 8) rfl)
theorem dL_welderOf_13 : decode cL_welderOf 13 = .ok (.astore 4, 2) := da_L_welderOf_0 (13, .astore 4, 2) (List.mem_of_getElem? (i := 9) rfl)
theorem dL_welderOf_15 : decode cL_welderOf 15 = .ok (.iconst 1, 1) := da_L_welderOf_0 (15, .iconst 1, 1) (List.mem_of_getElem? (i := 10) rfl)
theorem dL_welderOf_16 : decode cL_welderOf 16 = .ok (.ireturn, 1) := da_L_welderOf_0 (16, .ireturn, 1) (List.mem_of_getElem? (i := 11) rfl)
theorem dL_welderOf_17 : decode cL_welderOf 17 = .ok (.astore 4, 2) := da_L_welderOf_0 (17, .astore 4, 2) (List.mem_of_getElem? (i := 12) rfl)
theorem dL_welderOf_19 : decode cL_welderOf 19 = .ok (.iconst 2, 1) := da_L_welderOf_0 (19, .iconst 2, 1) (List.mem_of_getElem? (i := 13) rfl)
theorem dL_welderOf_20 : decode cL_welderOf 20 = .ok (.ireturn, 1) := da_L_welderOf_0 (20, .ireturn, 1) (List.mem_of_getElem? (i := 14) rfl)
theorem dL_welderOf_21 : decode cL_welderOf 21 = .ok (.iconst 0, 1) := da_L_welderOf_0 (21, .iconst 0, 1) (List.mem_of_getElem? (i := 15) rfl)
theorem dL_welderOf_22 : decode cL_welderOf 22 = .ok (.ireturn, 1) := da_L_welderOf_0 (22, .ireturn, 1) (List.mem_of_getElem? (i := 16) rfl)
def dl_L_toLook_0 : List (Nat × Instr × Nat) := [(0, .aload_n 2, 1), (1, .iconst 0, 1), (2, .aload_n 0, 1), (3, .iload_n 1, 1), (4, .invokevirtual 99, 3), (7, .i2l, 1), (8, .lastore, 1), (9, .goto 6, 3), (12, .astore_n 3, 1), (13, .iconst 1, 1), (14, .ireturn, 1), (15, .iconst 0, 1), (16, .ireturn, 1)]
theorem da_L_toLook_0 : ∀ r ∈ dl_L_toLook_0, decode cL_toLook r.1 = .ok r.2 := by decide +kernel
theorem dL_toLook_0 : decode cL_toLook 0 = .ok (.aload_n 2, 1) := da_L_toLook_0 (0, .aload_n 2, 1) (List.mem_of_getElem? (i := 0) rfl)
theorem dL_toLook_1 : decode cL_toLook 1 = .ok (.iconst 0, 1) := da_L_toLook_0 (1, .iconst 0, 1) (List.mem_of_getElem? (i := 1) rfl)
theorem dL_toLook_2 : decode cL_toLook 2 = .ok (.aload_n 0, 1) := da_L_toLook_0 (2, .aload_n 0, 1) (List.mem_of_getElem? (i := 2) rfl)
theorem dL_toLook_3 : decode cL_toLook 3 = .ok (.iload_n 1, 1) := da_L_toLook_0 (3, .iload_n 1, 1) (List.mem_of_getElem? (i := 3) rfl)
theorem dL_toLook_4 : decode cL_toLook 4 = .ok (.invokevirtual 99, 3) := da_L_toLook_0 (4, .invokevirtual 99, 3) (List.mem_of_getElem? (i := 4) rfl)
theorem dL_toLook_7 : decode cL_toLook 7 = .ok (.i2l, 1) := da_L_toLook_0 (7, .i2l, 1) (List.mem_of_getElem? (i := 5) rfl)
theorem dL_toLook_8 : decode cL_toLook 8 = .ok (.lastore, 1) := da_L_toLook_0 (8, .lastore, 1) (List.mem_of_getElem? (i := 6) rfl)
theorem dL_toLook_9 : decode cL_toLook 9 = .ok (.goto 6, 3) := da_L_toLook_0 (9, .goto 6, 3) (List.mem_of_getElem? (i := 7) rfl)
theorem dL_toLook_12 : decode cL_toLook 12 = .ok (.astore_n 3, 1) := da_L_toLook_0 (12, .astore_n 3, 1) (List.mem_of_getElem? (i := 8) rfl)
theorem dL_toLook_13 : decode cL_toLook 13 = .ok (.iconst 1, 1) := da_L_toLook_0 (13, .iconst 1, 1) (List.mem_of_getElem? (i := 9) rfl)
theorem dL_toLook_14 : decode cL_toLook 14 = .ok (.ireturn, 1) := da_L_toLook_0 (14, .ireturn, 1) (List.mem_of_getElem? (i := 10) rfl)
theorem dL_toLook_15 : decode cL_toLook 15 = .ok (.iconst 0, 1) := da_L_toLook_0 (15, .iconst 0, 1) (List.mem_of_getElem? (i := 11) rfl)
theorem dL_toLook_16 : decode cL_toLook 16 = .ok (.ireturn, 1) := da_L_toLook_0 (16, .ireturn, 1) (List.mem_of_getElem? (i := 12) rfl)
def dl_L_failed_0 : List (Nat × Instr × Nat) := [(0, .aload_n 2, 1), (1, .iconst 0, 1), (2, .aload_n 0, 1), (3, .iload_n 1, 1), (4, .invokevirtual 102, 3), (7, .i2l, 1), (8, .lastore, 1), (9, .goto 6, 3), (12, .astore_n 3, 1), (13, .iconst 1, 1), (14, .ireturn, 1), (15, .iconst 0, 1), (16, .ireturn, 1)]
theorem da_L_failed_0 : ∀ r ∈ dl_L_failed_0, decode cL_failed r.1 = .ok r.2 := by decide +kernel
theorem dL_failed_0 : decode cL_failed 0 = .ok (.aload_n 2, 1) := da_L_failed_0 (0, .aload_n 2, 1) (List.mem_of_getElem? (i := 0) rfl)
theorem dL_failed_1 : decode cL_failed 1 = .ok (.iconst 0, 1) := da_L_failed_0 (1, .iconst 0, 1) (List.mem_of_getElem? (i := 1) rfl)
theorem dL_failed_2 : decode cL_failed 2 = .ok (.aload_n 0, 1) := da_L_failed_0 (2, .aload_n 0, 1) (List.mem_of_getElem? (i := 2) rfl)
theorem dL_failed_3 : decode cL_failed 3 = .ok (.iload_n 1, 1) := da_L_failed_0 (3, .iload_n 1, 1) (List.mem_of_getElem? (i := 3) rfl)
theorem dL_failed_4 : decode cL_failed 4 = .ok (.invokevirtual 102, 3) := da_L_failed_0 (4, .invokevirtual 102, 3) (List.mem_of_getElem? (i := 4) rfl)
theorem dL_failed_7 : decode cL_failed 7 = .ok (.i2l, 1) := da_L_failed_0 (7, .i2l, 1) (List.mem_of_getElem? (i := 5) rfl)
theorem dL_failed_8 : decode cL_failed 8 = .ok (.lastore, 1) := da_L_failed_0 (8, .lastore, 1) (List.mem_of_getElem? (i := 6) rfl)
theorem dL_failed_9 : decode cL_failed 9 = .ok (.goto 6, 3) := da_L_failed_0 (9, .goto 6, 3) (List.mem_of_getElem? (i := 7) rfl)
theorem dL_failed_12 : decode cL_failed 12 = .ok (.astore_n 3, 1) := da_L_failed_0 (12, .astore_n 3, 1) (List.mem_of_getElem? (i := 8) rfl)
theorem dL_failed_13 : decode cL_failed 13 = .ok (.iconst 1, 1) := da_L_failed_0 (13, .iconst 1, 1) (List.mem_of_getElem? (i := 9) rfl)
theorem dL_failed_14 : decode cL_failed 14 = .ok (.ireturn, 1) := da_L_failed_0 (14, .ireturn, 1) (List.mem_of_getElem? (i := 10) rfl)
theorem dL_failed_15 : decode cL_failed 15 = .ok (.iconst 0, 1) := da_L_failed_0 (15, .iconst 0, 1) (List.mem_of_getElem? (i := 11) rfl)
theorem dL_failed_16 : decode cL_failed 16 = .ok (.ireturn, 1) := da_L_failed_0 (16, .ireturn, 1) (List.mem_of_getElem? (i := 12) rfl)
def dl_L_pass_0 : List (Nat × Instr × Nat) := [(0, .aload_n 2, 1), (1, .iconst 0, 1), (2, .aload_n 0, 1), (3, .iload_n 1, 1), (4, .invokevirtual 105, 3), (7, .i2l, 1), (8, .lastore, 1), (9, .goto 9, 3), (12, .astore_n 3, 1), (13, .iconst 1, 1), (14, .ireturn, 1), (15, .astore_n 3, 1), (16, .iconst 2, 1), (17, .ireturn, 1), (18, .iconst 0, 1), (19, .ireturn, 1)]
theorem da_L_pass_0 : ∀ r ∈ dl_L_pass_0, decode cL_pass r.1 = .ok r.2 := by decide +kernel
theorem dL_pass_0 : decode cL_pass 0 = .ok (.aload_n 2, 1) := da_L_pass_0 (0, .aload_n 2, 1) (List.mem_of_getElem? (i := 0) rfl)
theorem dL_pass_1 : decode cL_pass 1 = .ok (.iconst 0, 1) := da_L_pass_0 (1, .iconst 0, 1) (List.mem_of_getElem? (i := 1) rfl)
theorem dL_pass_2 : decode cL_pass 2 = .ok (.aload_n 0, 1) := da_L_pass_0 (2, .aload_n 0, 1) (List.mem_of_getElem? (i := 2) rfl)
theorem dL_pass_3 : decode cL_pass 3 = .ok (.iload_n 1, 1) := da_L_pass_0 (3, .iload_n 1, 1) (List.mem_of_getElem? (i := 3) rfl)
theorem dL_pass_4 : decode cL_pass 4 = .ok (.invokevirtual 105, 3) := da_L_pass_0 (4, .invokevirtual 105, 3) (List.mem_of_getElem? (i := 4) rfl)
theorem dL_pass_7 : decode cL_pass 7 = .ok (.i2l, 1) := da_L_pass_0 (7, .i2l, 1) (List.mem_of_getElem? (i := 5) rfl)
theorem dL_pass_8 : decode cL_pass 8 = .ok (.lastore, 1) := da_L_pass_0 (8, .lastore, 1) (List.mem_of_getElem? (i := 6) rfl)
theorem dL_pass_9 : decode cL_pass 9 = .ok (.goto 9, 3) := da_L_pass_0 (9, .goto 9, 3) (List.mem_of_getElem? (i := 7) rfl)
theorem dL_pass_12 : decode cL_pass 12 = .ok (.astore_n 3, 1) := da_L_pass_0 (12, .astore_n 3, 1) (List.mem_of_getElem? (i := 8) rfl)
theorem dL_pass_13 : decode cL_pass 13 = .ok (.iconst 1, 1) := da_L_pass_0 (13, .iconst 1, 1) (List.mem_of_getElem? (i := 9) rfl)
theorem dL_pass_14 : decode cL_pass 14 = .ok (.ireturn, 1) := da_L_pass_0 (14, .ireturn, 1) (List.mem_of_getElem? (i := 10) rfl)
theorem dL_pass_15 : decode cL_pass 15 = .ok (.astore_n 3, 1) := da_L_pass_0 (15, .astore_n 3, 1) (List.mem_of_getElem? (i := 11) rfl)
theorem dL_pass_16 : decode cL_pass 16 = .ok (.iconst 2, 1) := da_L_pass_0 (16, .iconst 2, 1) (List.mem_of_getElem? (i := 12) rfl)
theorem dL_pass_17 : decode cL_pass 17 = .ok (.ireturn, 1) := da_L_pass_0 (17, .ireturn, 1) (List.mem_of_getElem? (i := 13) rfl)
theorem dL_pass_18 : decode cL_pass 18 = .ok (.iconst 0, 1) := da_L_pass_0 (18, .iconst 0, 1) (List.mem_of_getElem? (i := 14) rfl)
theorem dL_pass_19 : decode cL_pass 19 = .ok (.ireturn, 1) := da_L_pass_0 (19, .ireturn, 1) (List.mem_of_getElem? (i := 15) rfl)
def dl_L_join_0 : List (Nat × Instr × Nat) := [(0, .aload 5, 2), (2, .iconst 0, 1), (3, .aload_n 0, 1), (4, .iload_n 1, 1), (5, .iload_n 2, 1), (6, .iload_n 3, 1), (7, .iload 4, 2), (9, .invokevirtual 108, 3), (12, .ifCond .eq 7, 3), (15, .lconst 1, 1), (16, .goto 4, 3), (19, .lconst 0, 1), (20, .lastore, 1), (21, .goto 15, 3), (24, .astore 6, 2), (26, .iconst 1, 1), (27, .ireturn, 1), (28, .astore 6, 2), (30, .iconst 2, 1), (31, .ireturn, 1), (32, .astore 6, 2), (34, .iconst 3, 1), (35, .ireturn, 1), (36, .iconst 0, 1), (37, .ireturn, 1)]
theorem da_L_join_0 : ∀ r ∈ dl_L_join_0, decode cL_join r.1 = .ok r.2 := by decide +kernel
theorem dL_join_0 : decode cL_join 0 = .ok (.aload 5, 2) := da_L_join_0 (0, .aload 5, 2) (List.mem_of_getElem? (i := 0) rfl)
theorem dL_join_2 : decode cL_join 2 = .ok (.iconst 0, 1) := da_L_join_0 (2, .iconst 0, 1) (List.mem_of_getElem? (i := 1) rfl)
theorem dL_join_3 : decode cL_join 3 = .ok (.aload_n 0, 1) := da_L_join_0 (3, .aload_n 0, 1) (List.mem_of_getElem? (i := 2) rfl)
theorem dL_join_4 : decode cL_join 4 = .ok (.iload_n 1, 1) := da_L_join_0 (4, .iload_n 1, 1) (List.mem_of_getElem? (i := 3) rfl)
theorem dL_join_5 : decode cL_join 5 = .ok (.iload_n 2, 1) := da_L_join_0 (5, .iload_n 2, 1) (List.mem_of_getElem? (i := 4) rfl)
theorem dL_join_6 : decode cL_join 6 = .ok (.iload_n 3, 1) := da_L_join_0 (6, .iload_n 3, 1) (List.mem_of_getElem? (i := 5) rfl)
theorem dL_join_7 : decode cL_join 7 = .ok (.iload 4, 2) := da_L_join_0 (7, .iload 4, 2) (List.mem_of_getElem? (i := 6) rfl)
theorem dL_join_9 : decode cL_join 9 = .ok (.invokevirtual 108, 3) := da_L_join_0 (9, .invokevirtual 108, 3) (List.mem_of_getElem? (i := 7) rfl)
theorem dL_join_12 : decode cL_join 12 = .ok (.ifCond .eq 7, 3) := da_L_join_0 (12, .ifCond .eq 7, 3) (List.mem_of_getElem? (i := 8) rfl)
theorem dL_join_15 : decode cL_join 15 = .ok (.lconst 1, 1) := da_L_join_0 (15, .lconst 1, 1) (List.mem_of_getElem? (i := 9) rfl)
theorem dL_join_16 : decode cL_join 16 = .ok (.goto 4, 3) := da_L_join_0 (16, .goto 4, 3) (List.mem_of_getElem? (i := 10) rfl)
theorem dL_join_19 : decode cL_join 19 = .ok (.lconst 0, 1) := da_L_join_0 (19, .lconst 0, 1) (List.mem_of_getElem? (i := 11) rfl)
theorem dL_join_20 : decode cL_join 20 = .ok (.lastore, 1) := da_L_join_0 (20, .lastore, 1) (List.mem_of_getElem? (i := 12) rfl)
theorem dL_join_21 : decode cL_join 21 = .ok (.goto 15, 3) := da_L_join_0 (21, .goto 15, 3) (List.mem_of_getElem? (i := 13) rfl)
theorem dL_join_24 : decode cL_join 24 = .ok (.astore 6, 2) := da_L_join_0 (24, .astore 6, 2) (List.mem_of_getElem? (i := 14) rfl)
theorem dL_join_26 : decode cL_join 26 = .ok (.iconst 1, 1) := da_L_join_0 (26, .iconst 1, 1) (List.mem_of_getElem? (i := 15) rfl)
theorem dL_join_27 : decode cL_join 27 = .ok (.ireturn, 1) := da_L_join_0 (27, .ireturn, 1) (List.mem_of_getElem? (i := 16) rfl)
theorem dL_join_28 : decode cL_join 28 = .ok (.astore 6, 2) := da_L_join_0 (28, .astore 6, 2) (List.mem_of_getElem? (i := 17) rfl)
theorem dL_join_30 : decode cL_join 30 = .ok (.iconst 2, 1) := da_L_join_0 (30, .iconst 2, 1) (List.mem_of_getElem? (i := 18) rfl)
theorem dL_join_31 : decode cL_join 31 = .ok (.ireturn, 1) := da_L_join_0 (31, .ireturn, 1) (List.mem_of_getElem? (i := 19) rfl)
theorem dL_join_32 : decode cL_join 32 = .ok (.astore 6, 2) := da_L_join_0 (32, .astore 6, 2) (List.mem_of_getElem? (i := 20) rfl)
theorem dL_join_34 : decode cL_join 34 = .ok (.iconst 3, 1) := da_L_join_0 (34, .iconst 3, 1) (List.mem_of_getElem? (i := 21) rfl)
theorem dL_join_35 : decode cL_join 35 = .ok (.ireturn, 1) := da_L_join_0 (35, .ireturn, 1) (List.mem_of_getElem? (i := 22) rfl)
theorem dL_join_36 : decode cL_join 36 = .ok (.iconst 0, 1) := da_L_join_0 (36, .iconst 0, 1) (List.mem_of_getElem? (i := 23) rfl)
theorem dL_join_37 : decode cL_join 37 = .ok (.ireturn, 1) := da_L_join_0 (37, .ireturn, 1) (List.mem_of_getElem? (i := 24) rfl)
def dl_L_blind_0 : List (Nat × Instr × Nat) := [(0, .aload 4, 2), (2, .iconst 0, 1), (3, .aload_n 0, 1), (4, .iload_n 1, 1), (5, .iload_n 2, 1), (6, .iload_n 3, 1), (7, .invokevirtual 112, 3), (10, .ifCond .eq 7, 3), (13, .lconst 1, 1), (14, .goto 4, 3), (17, .lconst 0, 1), (18, .lastore, 1), (19, .goto 11, 3), (22, .astore 5, 2), (24, .iconst 1, 1), (25, .ireturn, 1), (26, .astore 5, 2), (28, .iconst 2, 1), (29, .ireturn, 1), (30, .iconst 0, 1), (31, .ireturn, 1)]
theorem da_L_blind_0 : ∀ r ∈ dl_L_blind_0, decode cL_blind r.1 = .ok r.2 := by decide +kernel
theorem dL_blind_0 : decode cL_blind 0 = .ok (.aload 4, 2) := da_L_blind_0 (0, .aload 4, 2) (List.mem_of_getElem? (i := 0) rfl)
theorem dL_blind_2 : decode cL_blind 2 = .ok (.iconst 0, 1) := da_L_blind_0 (2, .iconst 0, 1) (List.mem_of_getElem? (i := 1) rfl)
theorem dL_blind_3 : decode cL_blind 3 = .ok (.aload_n 0, 1) := da_L_blind_0 (3, .aload_n 0, 1) (List.mem_of_getElem? (i := 2) rfl)
theorem dL_blind_4 : decode cL_blind 4 = .ok (.iload_n 1, 1) := da_L_blind_0 (4, .iload_n 1, 1) (List.mem_of_getElem? (i := 3) rfl)
theorem dL_blind_5 : decode cL_blind 5 = .ok (.iload_n 2, 1) := da_L_blind_0 (5, .iload_n 2, 1) (List.mem_of_getElem? (i := 4) rfl)
theorem dL_blind_6 : decode cL_blind 6 = .ok (.iload_n 3, 1) := da_L_blind_0 (6, .iload_n 3, 1) (List.mem_of_getElem? (i := 5) rfl)
theorem dL_blind_7 : decode cL_blind 7 = .ok (.invokevirtual 112, 3) := da_L_blind_0 (7, .invokevirtual 112, 3) (List.mem_of_getElem? (i := 6) rfl)
theorem dL_blind_10 : decode cL_blind 10 = .ok (.ifCond .eq 7, 3) := da_L_blind_0 (10, .ifCond .eq 7, 3) (List.mem_of_getElem? (i := 7) rfl)
theorem dL_blind_13 : decode cL_blind 13 = .ok (.lconst 1, 1) := da_L_blind_0 (13, .lconst 1, 1) (List.mem_of_getElem? (i := 8) rfl)
theorem dL_blind_14 : decode cL_blind 14 = .ok (.goto 4, 3) := da_L_blind_0 (14, .goto 4, 3) (List.mem_of_getElem? (i := 9) rfl)
theorem dL_blind_17 : decode cL_blind 17 = .ok (.lconst 0, 1) := da_L_blind_0 (17, .lconst 0, 1) (List.mem_of_getElem? (i := 10) rfl)
theorem dL_blind_18 : decode cL_blind 18 = .ok (.lastore, 1) := da_L_blind_0 (18, .lastore, 1) (List.mem_of_getElem? (i := 11) rfl)
theorem dL_blind_19 : decode cL_blind 19 = .ok (.goto 11, 3) := da_L_blind_0 (19, .goto 11, 3) (List.mem_of_getElem? (i := 12) rfl)
theorem dL_blind_22 : decode cL_blind 22 = .ok (.astore 5, 2) := da_L_blind_0 (22, .astore 5, 2) (List.mem_of_getElem? (i := 13) rfl)
theorem dL_blind_24 : decode cL_blind 24 = .ok (.iconst 1, 1) := da_L_blind_0 (24, .iconst 1, 1) (List.mem_of_getElem? (i := 14) rfl)
theorem dL_blind_25 : decode cL_blind 25 = .ok (.ireturn, 1) := da_L_blind_0 (25, .ireturn, 1) (List.mem_of_getElem? (i := 15) rfl)
theorem dL_blind_26 : decode cL_blind 26 = .ok (.astore 5, 2) := da_L_blind_0 (26, .astore 5, 2) (List.mem_of_getElem? (i := 16) rfl)
theorem dL_blind_28 : decode cL_blind 28 = .ok (.iconst 2, 1) := da_L_blind_0 (28, .iconst 2, 1) (List.mem_of_getElem? (i := 17) rfl)
theorem dL_blind_29 : decode cL_blind 29 = .ok (.ireturn, 1) := da_L_blind_0 (29, .ireturn, 1) (List.mem_of_getElem? (i := 18) rfl)
theorem dL_blind_30 : decode cL_blind 30 = .ok (.iconst 0, 1) := da_L_blind_0 (30, .iconst 0, 1) (List.mem_of_getElem? (i := 19) rfl)
theorem dL_blind_31 : decode cL_blind 31 = .ok (.ireturn, 1) := da_L_blind_0 (31, .ireturn, 1) (List.mem_of_getElem? (i := 20) rfl)
def dl_L_addCircuit_0 : List (Nat × Instr × Nat) := [(0, .aload_n 2, 1), (1, .iconst 0, 1), (2, .aload_n 0, 1), (3, .iload_n 1, 1), (4, .invokevirtual 116, 3), (7, .i2l, 1), (8, .lastore, 1), (9, .goto 9, 3), (12, .astore_n 3, 1), (13, .iconst 1, 1), (14, .ireturn, 1), (15, .astore_n 3, 1), (16, .iconst 2, 1), (17, .ireturn, 1), (18, .iconst 0, 1), (19, .ireturn, 1)]
theorem da_L_addCircuit_0 : ∀ r ∈ dl_L_addCircuit_0, decode cL_addCircuit r.1 = .ok r.2 := by decide +kernel
theorem dL_addCircuit_0 : decode cL_addCircuit 0 = .ok (.aload_n 2, 1) := da_L_addCircuit_0 (0, .aload_n 2, 1) (List.mem_of_getElem? (i := 0) rfl)
theorem dL_addCircuit_1 : decode cL_addCircuit 1 = .ok (.iconst 0, 1) := da_L_addCircuit_0 (1, .iconst 0, 1) (List.mem_of_getElem? (i := 1) rfl)
theorem dL_addCircuit_2 : decode cL_addCircuit 2 = .ok (.aload_n 0, 1) := da_L_addCircuit_0 (2, .aload_n 0, 1) (List.mem_of_getElem? (i := 2) rfl)
theorem dL_addCircuit_3 : decode cL_addCircuit 3 = .ok (.iload_n 1, 1) := da_L_addCircuit_0 (3, .iload_n 1, 1) (List.mem_of_getElem? (i := 3) rfl)
theorem dL_addCircuit_4 : decode cL_addCircuit 4 = .ok (.invokevirtual 116, 3) := da_L_addCircuit_0 (4, .invokevirtual 116, 3) (List.mem_of_getElem? (i := 4) rfl)
theorem dL_addCircuit_7 : decode cL_addCircuit 7 = .ok (.i2l, 1) := da_L_addCircuit_0 (7, .i2l, 1) (List.mem_of_getElem? (i := 5) rfl)
theorem dL_addCircuit_8 : decode cL_addCircuit 8 = .ok (.lastore, 1) := da_L_addCircuit_0 (8, .lastore, 1) (List.mem_of_getElem? (i := 6) rfl)
theorem dL_addCircuit_9 : decode cL_addCircuit 9 = .ok (.goto 9, 3) := da_L_addCircuit_0 (9, .goto 9, 3) (List.mem_of_getElem? (i := 7) rfl)
theorem dL_addCircuit_12 : decode cL_addCircuit 12 = .ok (.astore_n 3, 1) := da_L_addCircuit_0 (12, .astore_n 3, 1) (List.mem_of_getElem? (i := 8) rfl)
theorem dL_addCircuit_13 : decode cL_addCircuit 13 = .ok (.iconst 1, 1) := da_L_addCircuit_0 (13, .iconst 1, 1) (List.mem_of_getElem? (i := 9) rfl)
theorem dL_addCircuit_14 : decode cL_addCircuit 14 = .ok (.ireturn, 1) := da_L_addCircuit_0 (14, .ireturn, 1) (List.mem_of_getElem? (i := 10) rfl)
theorem dL_addCircuit_15 : decode cL_addCircuit 15 = .ok (.astore_n 3, 1) := da_L_addCircuit_0 (15, .astore_n 3, 1) (List.mem_of_getElem? (i := 11) rfl)
theorem dL_addCircuit_16 : decode cL_addCircuit 16 = .ok (.iconst 2, 1) := da_L_addCircuit_0 (16, .iconst 2, 1) (List.mem_of_getElem? (i := 12) rfl)
theorem dL_addCircuit_17 : decode cL_addCircuit 17 = .ok (.ireturn, 1) := da_L_addCircuit_0 (17, .ireturn, 1) (List.mem_of_getElem? (i := 13) rfl)
theorem dL_addCircuit_18 : decode cL_addCircuit 18 = .ok (.iconst 0, 1) := da_L_addCircuit_0 (18, .iconst 0, 1) (List.mem_of_getElem? (i := 14) rfl)
theorem dL_addCircuit_19 : decode cL_addCircuit 19 = .ok (.ireturn, 1) := da_L_addCircuit_0 (19, .ireturn, 1) (List.mem_of_getElem? (i := 15) rfl)
def dl_L_open_0 : List (Nat × Instr × Nat) := [(0, .aload_n 2, 1), (1, .iconst 0, 1), (2, .aload_n 0, 1), (3, .iload_n 1, 1), (4, .invokevirtual 119, 3), (7, .i2l, 1), (8, .lastore, 1), (9, .goto 6, 3), (12, .astore_n 3, 1), (13, .iconst 1, 1), (14, .ireturn, 1), (15, .iconst 0, 1), (16, .ireturn, 1)]
theorem da_L_open_0 : ∀ r ∈ dl_L_open_0, decode cL_open r.1 = .ok r.2 := by decide +kernel
theorem dL_open_0 : decode cL_open 0 = .ok (.aload_n 2, 1) := da_L_open_0 (0, .aload_n 2, 1) (List.mem_of_getElem? (i := 0) rfl)
theorem dL_open_1 : decode cL_open 1 = .ok (.iconst 0, 1) := da_L_open_0 (1, .iconst 0, 1) (List.mem_of_getElem? (i := 1) rfl)
theorem dL_open_2 : decode cL_open 2 = .ok (.aload_n 0, 1) := da_L_open_0 (2, .aload_n 0, 1) (List.mem_of_getElem? (i := 2) rfl)
theorem dL_open_3 : decode cL_open 3 = .ok (.iload_n 1, 1) := da_L_open_0 (3, .iload_n 1, 1) (List.mem_of_getElem? (i := 3) rfl)
theorem dL_open_4 : decode cL_open 4 = .ok (.invokevirtual 119, 3) := da_L_open_0 (4, .invokevirtual 119, 3) (List.mem_of_getElem? (i := 4) rfl)
theorem dL_open_7 : decode cL_open 7 = .ok (.i2l, 1) := da_L_open_0 (7, .i2l, 1) (List.mem_of_getElem? (i := 5) rfl)
theorem dL_open_8 : decode cL_open 8 = .ok (.lastore, 1) := da_L_open_0 (8, .lastore, 1) (List.mem_of_getElem? (i := 6) rfl)
theorem dL_open_9 : decode cL_open 9 = .ok (.goto 6, 3) := da_L_open_0 (9, .goto 6, 3) (List.mem_of_getElem? (i := 7) rfl)
theorem dL_open_12 : decode cL_open 12 = .ok (.astore_n 3, 1) := da_L_open_0 (12, .astore_n 3, 1) (List.mem_of_getElem? (i := 8) rfl)
theorem dL_open_13 : decode cL_open 13 = .ok (.iconst 1, 1) := da_L_open_0 (13, .iconst 1, 1) (List.mem_of_getElem? (i := 9) rfl)
theorem dL_open_14 : decode cL_open 14 = .ok (.ireturn, 1) := da_L_open_0 (14, .ireturn, 1) (List.mem_of_getElem? (i := 10) rfl)
theorem dL_open_15 : decode cL_open 15 = .ok (.iconst 0, 1) := da_L_open_0 (15, .iconst 0, 1) (List.mem_of_getElem? (i := 11) rfl)
theorem dL_open_16 : decode cL_open 16 = .ok (.ireturn, 1) := da_L_open_0 (16, .ireturn, 1) (List.mem_of_getElem? (i := 12) rfl)
def dl_L_canTest_0 : List (Nat × Instr × Nat) := [(0, .aload_n 2, 1), (1, .iconst 0, 1), (2, .aload_n 0, 1), (3, .iload_n 1, 1), (4, .invokevirtual 122, 3), (7, .ifCond .eq 7, 3), (10, .lconst 1, 1), (11, .goto 4, 3), (14, .lconst 0, 1), (15, .lastore, 1), (16, .goto 6, 3), (19, .astore_n 3, 1), (20, .iconst 1, 1), (21, .ireturn, 1), (22, .iconst 0, 1), (23, .ireturn, 1)]
theorem da_L_canTest_0 : ∀ r ∈ dl_L_canTest_0, decode cL_canTest r.1 = .ok r.2 := by decide +kernel
theorem dL_canTest_0 : decode cL_canTest 0 = .ok (.aload_n 2, 1) := da_L_canTest_0 (0, .aload_n 2, 1) (List.mem_of_getElem? (i := 0) rfl)
theorem dL_canTest_1 : decode cL_canTest 1 = .ok (.iconst 0, 1) := da_L_canTest_0 (1, .iconst 0, 1) (List.mem_of_getElem? (i := 1) rfl)
theorem dL_canTest_2 : decode cL_canTest 2 = .ok (.aload_n 0, 1) := da_L_canTest_0 (2, .aload_n 0, 1) (List.mem_of_getElem? (i := 2) rfl)
theorem dL_canTest_3 : decode cL_canTest 3 = .ok (.iload_n 1, 1) := da_L_canTest_0 (3, .iload_n 1, 1) (List.mem_of_getElem? (i := 3) rfl)
theorem dL_canTest_4 : decode cL_canTest 4 = .ok (.invokevirtual 122, 3) := da_L_canTest_0 (4, .invokevirtual 122, 3) (List.mem_of_getElem? (i := 4) rfl)
theorem dL_canTest_7 : decode cL_canTest 7 = .ok (.ifCond .eq 7, 3) := da_L_canTest_0 (7, .ifCond .eq 7, 3) (List.mem_of_getElem? (i := 5) rfl)
theorem dL_canTest_10 : decode cL_canTest 10 = .ok (.lconst 1, 1) := da_L_canTest_0 (10, .lconst 1, 1) (List.mem_of_getElem? (i := 6) rfl)
theorem dL_canTest_11 : decode cL_canTest 11 = .ok (.goto 4, 3) := da_L_canTest_0 (11, .goto 4, 3) (List.mem_of_getElem? (i := 7) rfl)
theorem dL_canTest_14 : decode cL_canTest 14 = .ok (.lconst 0, 1) := da_L_canTest_0 (14, .lconst 0, 1) (List.mem_of_getElem? (i := 8) rfl)
theorem dL_canTest_15 : decode cL_canTest 15 = .ok (.lastore, 1) := da_L_canTest_0 (15, .lastore, 1) (List.mem_of_getElem? (i := 9) rfl)
theorem dL_canTest_16 : decode cL_canTest 16 = .ok (.goto 6, 3) := da_L_canTest_0 (16, .goto 6, 3) (List.mem_of_getElem? (i := 10) rfl)
theorem dL_canTest_19 : decode cL_canTest 19 = .ok (.astore_n 3, 1) := da_L_canTest_0 (19, .astore_n 3, 1) (List.mem_of_getElem? (i := 11) rfl)
theorem dL_canTest_20 : decode cL_canTest 20 = .ok (.iconst 1, 1) := da_L_canTest_0 (20, .iconst 1, 1) (List.mem_of_getElem? (i := 12) rfl)
theorem dL_canTest_21 : decode cL_canTest 21 = .ok (.ireturn, 1) := da_L_canTest_0 (21, .ireturn, 1) (List.mem_of_getElem? (i := 13) rfl)
theorem dL_canTest_22 : decode cL_canTest 22 = .ok (.iconst 0, 1) := da_L_canTest_0 (22, .iconst 0, 1) (List.mem_of_getElem? (i := 14) rfl)
theorem dL_canTest_23 : decode cL_canTest 23 = .ok (.ireturn, 1) := da_L_canTest_0 (23, .ireturn, 1) (List.mem_of_getElem? (i := 15) rfl)
def dl_L_testAll_0 : List (Nat × Instr × Nat) := [(0, .aload_n 2, 1), (1, .iconst 0, 1), (2, .aload_n 0, 1), (3, .iload_n 1, 1), (4, .invokevirtual 125, 3), (7, .i2l, 1), (8, .lastore, 1), (9, .goto 9, 3), (12, .astore_n 3, 1), (13, .iconst 1, 1), (14, .ireturn, 1), (15, .astore_n 3, 1), (16, .iconst 2, 1), (17, .ireturn, 1), (18, .iconst 0, 1), (19, .ireturn, 1)]
theorem da_L_testAll_0 : ∀ r ∈ dl_L_testAll_0, decode cL_testAll r.1 = .ok r.2 := by decide +kernel
theorem dL_testAll_0 : decode cL_testAll 0 = .ok (.aload_n 2, 1) := da_L_testAll_0 (0, .aload_n 2, 1) (List.mem_of_getElem? (i := 0) rfl)
theorem dL_testAll_1 : decode cL_testAll 1 = .ok (.iconst 0, 1) := da_L_testAll_0 (1, .iconst 0, 1) (List.mem_of_getElem? (i := 1) rfl)
theorem dL_testAll_2 : decode cL_testAll 2 = .ok (.aload_n 0, 1) := da_L_testAll_0 (2, .aload_n 0, 1) (List.mem_of_getElem? (i := 2) rfl)
theorem dL_testAll_3 : decode cL_testAll 3 = .ok (.iload_n 1, 1) := da_L_testAll_0 (3, .iload_n 1, 1) (List.mem_of_getElem? (i := 3) rfl)
theorem dL_testAll_4 : decode cL_testAll 4 = .ok (.invokevirtual 125, 3) := da_L_testAll_0 (4, .invokevirtual 125, 3) (List.mem_of_getElem? (i := 4) rfl)
theorem dL_testAll_7 : decode cL_testAll 7 = .ok (.i2l, 1) := da_L_testAll_0 (7, .i2l, 1) (List.mem_of_getElem? (i := 5) rfl)
theorem dL_testAll_8 : decode cL_testAll 8 = .ok (.lastore, 1) := da_L_testAll_0 (8, .lastore, 1) (List.mem_of_getElem? (i := 6) rfl)
theorem dL_testAll_9 : decode cL_testAll 9 = .ok (.goto 9, 3) := da_L_testAll_0 (9, .goto 9, 3) (List.mem_of_getElem? (i := 7) rfl)
theorem dL_testAll_12 : decode cL_testAll 12 = .ok (.astore_n 3, 1) := da_L_testAll_0 (12, .astore_n 3, 1) (List.mem_of_getElem? (i := 8) rfl)
theorem dL_testAll_13 : decode cL_testAll 13 = .ok (.iconst 1, 1) := da_L_testAll_0 (13, .iconst 1, 1) (List.mem_of_getElem? (i := 9) rfl)
theorem dL_testAll_14 : decode cL_testAll 14 = .ok (.ireturn, 1) := da_L_testAll_0 (14, .ireturn, 1) (List.mem_of_getElem? (i := 10) rfl)
theorem dL_testAll_15 : decode cL_testAll 15 = .ok (.astore_n 3, 1) := da_L_testAll_0 (15, .astore_n 3, 1) (List.mem_of_getElem? (i := 11) rfl)
theorem dL_testAll_16 : decode cL_testAll 16 = .ok (.iconst 2, 1) := da_L_testAll_0 (16, .iconst 2, 1) (List.mem_of_getElem? (i := 12) rfl)
theorem dL_testAll_17 : decode cL_testAll 17 = .ok (.ireturn, 1) := da_L_testAll_0 (17, .ireturn, 1) (List.mem_of_getElem? (i := 13) rfl)
theorem dL_testAll_18 : decode cL_testAll 18 = .ok (.iconst 0, 1) := da_L_testAll_0 (18, .iconst 0, 1) (List.mem_of_getElem? (i := 14) rfl)
theorem dL_testAll_19 : decode cL_testAll 19 = .ok (.ireturn, 1) := da_L_testAll_0 (19, .ireturn, 1) (List.mem_of_getElem? (i := 15) rfl)
def dl_L_isTested_0 : List (Nat × Instr × Nat) := [(0, .aload_n 2, 1), (1, .iconst 0, 1), (2, .aload_n 0, 1), (3, .iload_n 1, 1), (4, .invokevirtual 128, 3), (7, .ifCond .eq 7, 3), (10, .lconst 1, 1), (11, .goto 4, 3), (14, .lconst 0, 1), (15, .lastore, 1), (16, .goto 6, 3), (19, .astore_n 3, 1), (20, .iconst 1, 1), (21, .ireturn, 1), (22, .iconst 0, 1), (23, .ireturn, 1)]
theorem da_L_isTested_0 : ∀ r ∈ dl_L_isTested_0, decode cL_isTested r.1 = .ok r.2 := by decide +kernel
theorem dL_isTested_0 : decode cL_isTested 0 = .ok (.aload_n 2, 1) := da_L_isTested_0 (0, .aload_n 2, 1) (List.mem_of_getElem? (i := 0) rfl)
theorem dL_isTested_1 : decode cL_isTested 1 = .ok (.iconst 0, 1) := da_L_isTested_0 (1, .iconst 0, 1) (List.mem_of_getElem? (i := 1) rfl)
theorem dL_isTested_2 : decode cL_isTested 2 = .ok (.aload_n 0, 1) := da_L_isTested_0 (2, .aload_n 0, 1) (List.mem_of_getElem? (i := 2) rfl)
theorem dL_isTested_3 : decode cL_isTested 3 = .ok (.iload_n 1, 1) := da_L_isTested_0 (3, .iload_n 1, 1) (List.mem_of_getElem? (i := 3) rfl)
theorem dL_isTested_4 : decode cL_isTested 4 = .ok (.invokevirtual 128, 3) := da_L_isTested_0 (4, .invokevirtual 128, 3) (List.mem_of_getElem? (i := 4) rfl)
theorem dL_isTested_7 : decode cL_isTested 7 = .ok (.ifCond .eq 7, 3) := da_L_isTested_0 (7, .ifCond .eq 7, 3) (List.mem_of_getElem? (i := 5) rfl)
theorem dL_isTested_10 : decode cL_isTested 10 = .ok (.lconst 1, 1) := da_L_isTested_0 (10, .lconst 1, 1) (List.mem_of_getElem? (i := 6) rfl)
theorem dL_isTested_11 : decode cL_isTested 11 = .ok (.goto 4, 3) := da_L_isTested_0 (11, .goto 4, 3) (List.mem_of_getElem? (i := 7) rfl)
theorem dL_isTested_14 : decode cL_isTested 14 = .ok (.lconst 0, 1) := da_L_isTested_0 (14, .lconst 0, 1) (List.mem_of_getElem? (i := 8) rfl)
theorem dL_isTested_15 : decode cL_isTested 15 = .ok (.lastore, 1) := da_L_isTested_0 (15, .lastore, 1) (List.mem_of_getElem? (i := 9) rfl)
theorem dL_isTested_16 : decode cL_isTested 16 = .ok (.goto 6, 3) := da_L_isTested_0 (16, .goto 6, 3) (List.mem_of_getElem? (i := 10) rfl)
theorem dL_isTested_19 : decode cL_isTested 19 = .ok (.astore_n 3, 1) := da_L_isTested_0 (19, .astore_n 3, 1) (List.mem_of_getElem? (i := 11) rfl)
theorem dL_isTested_20 : decode cL_isTested 20 = .ok (.iconst 1, 1) := da_L_isTested_0 (20, .iconst 1, 1) (List.mem_of_getElem? (i := 12) rfl)
theorem dL_isTested_21 : decode cL_isTested 21 = .ok (.ireturn, 1) := da_L_isTested_0 (21, .ireturn, 1) (List.mem_of_getElem? (i := 13) rfl)
theorem dL_isTested_22 : decode cL_isTested 22 = .ok (.iconst 0, 1) := da_L_isTested_0 (22, .iconst 0, 1) (List.mem_of_getElem? (i := 14) rfl)
theorem dL_isTested_23 : decode cL_isTested 23 = .ok (.ireturn, 1) := da_L_isTested_0 (23, .ireturn, 1) (List.mem_of_getElem? (i := 15) rfl)
def dl_L_lack_0 : List (Nat × Instr × Nat) := [(0, .aload_n 3, 1), (1, .iconst 0, 1), (2, .aload_n 0, 1), (3, .iload_n 1, 1), (4, .iload_n 2, 1), (5, .invokevirtual 131, 3), (8, .i2l, 1), (9, .lastore, 1), (10, .goto 7, 3), (13, .astore 4, 2), (15, .iconst 1, 1), (16, .ireturn, 1), (17, .iconst 0, 1), (18, .ireturn, 1)]
theorem da_L_lack_0 : ∀ r ∈ dl_L_lack_0, decode cL_lack r.1 = .ok r.2 := by decide +kernel
theorem dL_lack_0 : decode cL_lack 0 = .ok (.aload_n 3, 1) := da_L_lack_0 (0, .aload_n 3, 1) (List.mem_of_getElem? (i := 0) rfl)
theorem dL_lack_1 : decode cL_lack 1 = .ok (.iconst 0, 1) := da_L_lack_0 (1, .iconst 0, 1) (List.mem_of_getElem? (i := 1) rfl)
theorem dL_lack_2 : decode cL_lack 2 = .ok (.aload_n 0, 1) := da_L_lack_0 (2, .aload_n 0, 1) (List.mem_of_getElem? (i := 2) rfl)
theorem dL_lack_3 : decode cL_lack 3 = .ok (.iload_n 1, 1) := da_L_lack_0 (3, .iload_n 1, 1) (List.mem_of_getElem? (i := 3) rfl)
theorem dL_lack_4 : decode cL_lack 4 = .ok (.iload_n 2, 1) := da_L_lack_0 (4, .iload_n 2, 1) (List.mem_of_getElem? (i := 4) rfl)
theorem dL_lack_5 : decode cL_lack 5 = .ok (.invokevirtual 131, 3) := da_L_lack_0 (5, .invokevirtual 131, 3) (List.mem_of_getElem? (i := 5) rfl)
theorem dL_lack_8 : decode cL_lack 8 = .ok (.i2l, 1) := da_L_lack_0 (8, .i2l, 1) (List.mem_of_getElem? (i := 6) rfl)
theorem dL_lack_9 : decode cL_lack 9 = .ok (.lastore, 1) := da_L_lack_0 (9, .lastore, 1) (List.mem_of_getElem? (i := 7) rfl)
theorem dL_lack_10 : decode cL_lack 10 = .ok (.goto 7, 3) := da_L_lack_0 (10, .goto 7, 3) (List.mem_of_getElem? (i := 8) rfl)
theorem dL_lack_13 : decode cL_lack 13 = .ok (.astore 4, 2) := da_L_lack_0 (13, .astore 4, 2) (List.mem_of_getElem? (i := 9) rfl)
theorem dL_lack_15 : decode cL_lack 15 = .ok (.iconst 1, 1) := da_L_lack_0 (15, .iconst 1, 1) (List.mem_of_getElem? (i := 10) rfl)
theorem dL_lack_16 : decode cL_lack 16 = .ok (.ireturn, 1) := da_L_lack_0 (16, .ireturn, 1) (List.mem_of_getElem? (i := 11) rfl)
theorem dL_lack_17 : decode cL_lack 17 = .ok (.iconst 0, 1) := da_L_lack_0 (17, .iconst 0, 1) (List.mem_of_getElem? (i := 12) rfl)
theorem dL_lack_18 : decode cL_lack 18 = .ok (.ireturn, 1) := da_L_lack_0 (18, .ireturn, 1) (List.mem_of_getElem? (i := 13) rfl)
def dl_L_lacks_0 : List (Nat × Instr × Nat) := [(0, .aload_n 2, 1), (1, .iconst 0, 1), (2, .aload_n 0, 1), (3, .iload_n 1, 1), (4, .invokevirtual 134, 3), (7, .i2l, 1), (8, .lastore, 1), (9, .goto 6, 3), (12, .astore_n 3, 1), (13, .iconst 1, 1), (14, .ireturn, 1), (15, .iconst 0, 1), (16, .ireturn, 1)]
theorem da_L_lacks_0 : ∀ r ∈ dl_L_lacks_0, decode cL_lacks r.1 = .ok r.2 := by decide +kernel
theorem dL_lacks_0 : decode cL_lacks 0 = .ok (.aload_n 2, 1) := da_L_lacks_0 (0, .aload_n 2, 1) (List.mem_of_getElem? (i := 0) rfl)
theorem dL_lacks_1 : decode cL_lacks 1 = .ok (.iconst 0, 1) := da_L_lacks_0 (1, .iconst 0, 1) (List.mem_of_getElem? (i := 1) rfl)
theorem dL_lacks_2 : decode cL_lacks 2 = .ok (.aload_n 0, 1) := da_L_lacks_0 (2, .aload_n 0, 1) (List.mem_of_getElem? (i := 2) rfl)
theorem dL_lacks_3 : decode cL_lacks 3 = .ok (.iload_n 1, 1) := da_L_lacks_0 (3, .iload_n 1, 1) (List.mem_of_getElem? (i := 3) rfl)
theorem dL_lacks_4 : decode cL_lacks 4 = .ok (.invokevirtual 134, 3) := da_L_lacks_0 (4, .invokevirtual 134, 3) (List.mem_of_getElem? (i := 4) rfl)
theorem dL_lacks_7 : decode cL_lacks 7 = .ok (.i2l, 1) := da_L_lacks_0 (7, .i2l, 1) (List.mem_of_getElem? (i := 5) rfl)
theorem dL_lacks_8 : decode cL_lacks 8 = .ok (.lastore, 1) := da_L_lacks_0 (8, .lastore, 1) (List.mem_of_getElem? (i := 6) rfl)
theorem dL_lacks_9 : decode cL_lacks 9 = .ok (.goto 6, 3) := da_L_lacks_0 (9, .goto 6, 3) (List.mem_of_getElem? (i := 7) rfl)
theorem dL_lacks_12 : decode cL_lacks 12 = .ok (.astore_n 3, 1) := da_L_lacks_0 (12, .astore_n 3, 1) (List.mem_of_getElem? (i := 8) rfl)
theorem dL_lacks_13 : decode cL_lacks 13 = .ok (.iconst 1, 1) := da_L_lacks_0 (13, .iconst 1, 1) (List.mem_of_getElem? (i := 9) rfl)
theorem dL_lacks_14 : decode cL_lacks 14 = .ok (.ireturn, 1) := da_L_lacks_0 (14, .ireturn, 1) (List.mem_of_getElem? (i := 10) rfl)
theorem dL_lacks_15 : decode cL_lacks 15 = .ok (.iconst 0, 1) := da_L_lacks_0 (15, .iconst 0, 1) (List.mem_of_getElem? (i := 11) rfl)
theorem dL_lacks_16 : decode cL_lacks 16 = .ok (.ireturn, 1) := da_L_lacks_0 (16, .ireturn, 1) (List.mem_of_getElem? (i := 12) rfl)
def dl_L_ahead_0 : List (Nat × Instr × Nat) := [(0, .aload_n 3, 1), (1, .iconst 0, 1), (2, .aload_n 0, 1), (3, .iload_n 1, 1), (4, .iload_n 2, 1), (5, .invokevirtual 138, 3), (8, .ifCond .eq 7, 3), (11, .lconst 1, 1), (12, .goto 4, 3), (15, .lconst 0, 1), (16, .lastore, 1), (17, .goto 15, 3), (20, .astore 4, 2), (22, .iconst 1, 1), (23, .ireturn, 1), (24, .astore 4, 2), (26, .iconst 2, 1), (27, .ireturn, 1), (28, .astore 4, 2), (30, .iconst 3, 1), (31, .ireturn, 1), (32, .iconst 0, 1), (33, .ireturn, 1)]
theorem da_L_ahead_0 : ∀ r ∈ dl_L_ahead_0, decode cL_ahead r.1 = .ok r.2 := by decide +kernel
theorem dL_ahead_0 : decode cL_ahead 0 = .ok (.aload_n 3, 1) := da_L_ahead_0 (0, .aload_n 3, 1) (List.mem_of_getElem? (i := 0) rfl)
theorem dL_ahead_1 : decode cL_ahead 1 = .ok (.iconst 0, 1) := da_L_ahead_0 (1, .iconst 0, 1) (List.mem_of_getElem? (i := 1) rfl)
theorem dL_ahead_2 : decode cL_ahead 2 = .ok (.aload_n 0, 1) := da_L_ahead_0 (2, .aload_n 0, 1) (List.mem_of_getElem? (i := 2) rfl)
theorem dL_ahead_3 : decode cL_ahead 3 = .ok (.iload_n 1, 1) := da_L_ahead_0 (3, .iload_n 1, 1) (List.mem_of_getElem? (i := 3) rfl)
theorem dL_ahead_4 : decode cL_ahead 4 = .ok (.iload_n 2, 1) := da_L_ahead_0 (4, .iload_n 2, 1) (List.mem_of_getElem? (i := 4) rfl)
theorem dL_ahead_5 : decode cL_ahead 5 = .ok (.invokevirtual 138, 3) := da_L_ahead_0 (5, .invokevirtual 138, 3) (List.mem_of_getElem? (i := 5) rfl)
theorem dL_ahead_8 : decode cL_ahead 8 = .ok (.ifCond .eq 7, 3) := da_L_ahead_0 (8, .ifCond .eq 7, 3) (List.mem_of_getElem? (i := 6) rfl)
theorem dL_ahead_11 : decode cL_ahead 11 = .ok (.lconst 1, 1) := da_L_ahead_0 (11, .lconst 1, 1) (List.mem_of_getElem? (i := 7) rfl)
theorem dL_ahead_12 : decode cL_ahead 12 = .ok (.goto 4, 3) := da_L_ahead_0 (12, .goto 4, 3) (List.mem_of_getElem? (i := 8) rfl)
theorem dL_ahead_15 : decode cL_ahead 15 = .ok (.lconst 0, 1) := da_L_ahead_0 (15, .lconst 0, 1) (List.mem_of_getElem? (i := 9) rfl)
theorem dL_ahead_16 : decode cL_ahead 16 = .ok (.lastore, 1) := da_L_ahead_0 (16, .lastore, 1) (List.mem_of_getElem? (i := 10) rfl)
theorem dL_ahead_17 : decode cL_ahead 17 = .ok (.goto 15, 3) := da_L_ahead_0 (17, .goto 15, 3) (List.mem_of_getElem? (i := 11) rfl)
theorem dL_ahead_20 : decode cL_ahead 20 = .ok (.astore 4, 2) := da_L_ahead_0 (20, .astore 4, 2) (List.mem_of_getElem? (i := 12) rfl)
theorem dL_ahead_22 : decode cL_ahead 22 = .ok (.iconst 1, 1) := da_L_ahead_0 (22, .iconst 1, 1) (List.mem_of_getElem? (i := 13) rfl)
theorem dL_ahead_23 : decode cL_ahead 23 = .ok (.ireturn, 1) := da_L_ahead_0 (23, .ireturn, 1) (List.mem_of_getElem? (i := 14) rfl)
theorem dL_ahead_24 : decode cL_ahead 24 = .ok (.astore 4, 2) := da_L_ahead_0 (24, .astore 4, 2) (List.mem_of_getElem? (i := 15) rfl)
theorem dL_ahead_26 : decode cL_ahead 26 = .ok (.iconst 2, 1) := da_L_ahead_0 (26, .iconst 2, 1) (List.mem_of_getElem? (i := 16) rfl)
theorem dL_ahead_27 : decode cL_ahead 27 = .ok (.ireturn, 1) := da_L_ahead_0 (27, .ireturn, 1) (List.mem_of_getElem? (i := 17) rfl)
theorem dL_ahead_28 : decode cL_ahead 28 = .ok (.astore 4, 2) := da_L_ahead_0 (28, .astore 4, 2) (List.mem_of_getElem? (i := 18) rfl)
theorem dL_ahead_30 : decode cL_ahead 30 = .ok (.iconst 3, 1) := da_L_ahead_0 (30, .iconst 3, 1) (List.mem_of_getElem? (i := 19) rfl)
theorem dL_ahead_31 : decode cL_ahead 31 = .ok (.ireturn, 1) := da_L_ahead_0 (31, .ireturn, 1) (List.mem_of_getElem? (i := 20) rfl)
theorem dL_ahead_32 : decode cL_ahead 32 = .ok (.iconst 0, 1) := da_L_ahead_0 (32, .iconst 0, 1) (List.mem_of_getElem? (i := 21) rfl)
theorem dL_ahead_33 : decode cL_ahead 33 = .ok (.ireturn, 1) := da_L_ahead_0 (33, .ireturn, 1) (List.mem_of_getElem? (i := 22) rfl)
def dl_L_isReady_0 : List (Nat × Instr × Nat) := [(0, .aload_n 2, 1), (1, .iconst 0, 1), (2, .aload_n 0, 1), (3, .iload_n 1, 1), (4, .invokevirtual 141, 3), (7, .ifCond .eq 7, 3), (10, .lconst 1, 1), (11, .goto 4, 3), (14, .lconst 0, 1), (15, .lastore, 1), (16, .goto 6, 3), (19, .astore_n 3, 1), (20, .iconst 1, 1), (21, .ireturn, 1), (22, .iconst 0, 1), (23, .ireturn, 1)]
theorem da_L_isReady_0 : ∀ r ∈ dl_L_isReady_0, decode cL_isReady r.1 = .ok r.2 := by decide +kernel
theorem dL_isReady_0 : decode cL_isReady 0 = .ok (.aload_n 2, 1) := da_L_isReady_0 (0, .aload_n 2, 1) (List.mem_of_getElem? (i := 0) rfl)
theorem dL_isReady_1 : decode cL_isReady 1 = .ok (.iconst 0, 1) := da_L_isReady_0 (1, .iconst 0, 1) (List.mem_of_getElem? (i := 1) rfl)
theorem dL_isReady_2 : decode cL_isReady 2 = .ok (.aload_n 0, 1) := da_L_isReady_0 (2, .aload_n 0, 1) (List.mem_of_getElem? (i := 2) rfl)
theorem dL_isReady_3 : decode cL_isReady 3 = .ok (.iload_n 1, 1) := da_L_isReady_0 (3, .iload_n 1, 1) (List.mem_of_getElem? (i := 3) rfl)
theorem dL_isReady_4 : decode cL_isReady 4 = .ok (.invokevirtual 141, 3) := da_L_isReady_0 (4, .invokevirtual 141, 3) (List.mem_of_getElem? (i := 4) rfl)
theorem dL_isReady_7 : decode cL_isReady 7 = .ok (.ifCond .eq 7, 3) := da_L_isReady_0 (7, .ifCond .eq 7, 3) (List.mem_of_getElem? (i := 5) rfl)
theorem dL_isReady_10 : decode cL_isReady 10 = .ok (.lconst 1, 1) := da_L_isReady_0 (10, .lconst 1, 1) (List.mem_of_getElem? (i := 6) rfl)
theorem dL_isReady_11 : decode cL_isReady 11 = .ok (.goto 4, 3) := da_L_isReady_0 (11, .goto 4, 3) (List.mem_of_getElem? (i := 7) rfl)
theorem dL_isReady_14 : decode cL_isReady 14 = .ok (.lconst 0, 1) := da_L_isReady_0 (14, .lconst 0, 1) (List.mem_of_getElem? (i := 8) rfl)
theorem dL_isReady_15 : decode cL_isReady 15 = .ok (.lastore, 1) := da_L_isReady_0 (15, .lastore, 1) (List.mem_of_getElem? (i := 9) rfl)
theorem dL_isReady_16 : decode cL_isReady 16 = .ok (.goto 6, 3) := da_L_isReady_0 (16, .goto 6, 3) (List.mem_of_getElem? (i := 10) rfl)
theorem dL_isReady_19 : decode cL_isReady 19 = .ok (.astore_n 3, 1) := da_L_isReady_0 (19, .astore_n 3, 1) (List.mem_of_getElem? (i := 11) rfl)
theorem dL_isReady_20 : decode cL_isReady 20 = .ok (.iconst 1, 1) := da_L_isReady_0 (20, .iconst 1, 1) (List.mem_of_getElem? (i := 12) rfl)
theorem dL_isReady_21 : decode cL_isReady 21 = .ok (.ireturn, 1) := da_L_isReady_0 (21, .ireturn, 1) (List.mem_of_getElem? (i := 13) rfl)
theorem dL_isReady_22 : decode cL_isReady 22 = .ok (.iconst 0, 1) := da_L_isReady_0 (22, .iconst 0, 1) (List.mem_of_getElem? (i := 14) rfl)
theorem dL_isReady_23 : decode cL_isReady 23 = .ok (.ireturn, 1) := da_L_isReady_0 (23, .ireturn, 1) (List.mem_of_getElem? (i := 15) rfl)
def dl_L_turnover_0 : List (Nat × Instr × Nat) := [(0, .aload_n 2, 1), (1, .iconst 0, 1), (2, .aload_n 0, 1), (3, .iload_n 1, 1), (4, .invokevirtual 144, 3), (7, .i2l, 1), (8, .lastore, 1), (9, .goto 6, 3), (12, .astore_n 3, 1), (13, .iconst 1, 1), (14, .ireturn, 1), (15, .iconst 0, 1), (16, .ireturn, 1)]
theorem da_L_turnover_0 : ∀ r ∈ dl_L_turnover_0, decode cL_turnover r.1 = .ok r.2 := by decide +kernel
theorem dL_turnover_0 : decode cL_turnover 0 = .ok (.aload_n 2, 1) := da_L_turnover_0 (0, .aload_n 2, 1) (List.mem_of_getElem? (i := 0) rfl)
theorem dL_turnover_1 : decode cL_turnover 1 = .ok (.iconst 0, 1) := da_L_turnover_0 (1, .iconst 0, 1) (List.mem_of_getElem? (i := 1) rfl)
theorem dL_turnover_2 : decode cL_turnover 2 = .ok (.aload_n 0, 1) := da_L_turnover_0 (2, .aload_n 0, 1) (List.mem_of_getElem? (i := 2) rfl)
theorem dL_turnover_3 : decode cL_turnover 3 = .ok (.iload_n 1, 1) := da_L_turnover_0 (3, .iload_n 1, 1) (List.mem_of_getElem? (i := 3) rfl)
theorem dL_turnover_4 : decode cL_turnover 4 = .ok (.invokevirtual 144, 3) := da_L_turnover_0 (4, .invokevirtual 144, 3) (List.mem_of_getElem? (i := 4) rfl)
theorem dL_turnover_7 : decode cL_turnover 7 = .ok (.i2l, 1) := da_L_turnover_0 (7, .i2l, 1) (List.mem_of_getElem? (i := 5) rfl)
theorem dL_turnover_8 : decode cL_turnover 8 = .ok (.lastore, 1) := da_L_turnover_0 (8, .lastore, 1) (List.mem_of_getElem? (i := 6) rfl)
theorem dL_turnover_9 : decode cL_turnover 9 = .ok (.goto 6, 3) := da_L_turnover_0 (9, .goto 6, 3) (List.mem_of_getElem? (i := 7) rfl)
theorem dL_turnover_12 : decode cL_turnover 12 = .ok (.astore_n 3, 1) := da_L_turnover_0 (12, .astore_n 3, 1) (List.mem_of_getElem? (i := 8) rfl)
theorem dL_turnover_13 : decode cL_turnover 13 = .ok (.iconst 1, 1) := da_L_turnover_0 (13, .iconst 1, 1) (List.mem_of_getElem? (i := 9) rfl)
theorem dL_turnover_14 : decode cL_turnover 14 = .ok (.ireturn, 1) := da_L_turnover_0 (14, .ireturn, 1) (List.mem_of_getElem? (i := 10) rfl)
theorem dL_turnover_15 : decode cL_turnover 15 = .ok (.iconst 0, 1) := da_L_turnover_0 (15, .iconst 0, 1) (List.mem_of_getElem? (i := 11) rfl)
theorem dL_turnover_16 : decode cL_turnover 16 = .ok (.ireturn, 1) := da_L_turnover_0 (16, .ireturn, 1) (List.mem_of_getElem? (i := 12) rfl)
def dl_L_doneShare_0 : List (Nat × Instr × Nat) := [(0, .aload_n 1, 1), (1, .iconst 0, 1), (2, .aload_n 0, 1), (3, .invokevirtual 147, 3), (6, .f2d, 1), (7, .dastore, 1), (8, .goto 6, 3), (11, .astore_n 2, 1), (12, .iconst 1, 1), (13, .ireturn, 1), (14, .iconst 0, 1), (15, .ireturn, 1)]
theorem da_L_doneShare_0 : ∀ r ∈ dl_L_doneShare_0, decode cL_doneShare r.1 = .ok r.2 := by decide +kernel
theorem dL_doneShare_0 : decode cL_doneShare 0 = .ok (.aload_n 1, 1) := da_L_doneShare_0 (0, .aload_n 1, 1) (List.mem_of_getElem? (i := 0) rfl)
theorem dL_doneShare_1 : decode cL_doneShare 1 = .ok (.iconst 0, 1) := da_L_doneShare_0 (1, .iconst 0, 1) (List.mem_of_getElem? (i := 1) rfl)
theorem dL_doneShare_2 : decode cL_doneShare 2 = .ok (.aload_n 0, 1) := da_L_doneShare_0 (2, .aload_n 0, 1) (List.mem_of_getElem? (i := 2) rfl)
theorem dL_doneShare_3 : decode cL_doneShare 3 = .ok (.invokevirtual 147, 3) := da_L_doneShare_0 (3, .invokevirtual 147, 3) (List.mem_of_getElem? (i := 3) rfl)
theorem dL_doneShare_6 : decode cL_doneShare 6 = .ok (.f2d, 1) := da_L_doneShare_0 (6, .f2d, 1) (List.mem_of_getElem? (i := 4) rfl)
theorem dL_doneShare_7 : decode cL_doneShare 7 = .ok (.dastore, 1) := da_L_doneShare_0 (7, .dastore, 1) (List.mem_of_getElem? (i := 5) rfl)
theorem dL_doneShare_8 : decode cL_doneShare 8 = .ok (.goto 6, 3) := da_L_doneShare_0 (8, .goto 6, 3) (List.mem_of_getElem? (i := 6) rfl)
theorem dL_doneShare_11 : decode cL_doneShare 11 = .ok (.astore_n 2, 1) := da_L_doneShare_0 (11, .astore_n 2, 1) (List.mem_of_getElem? (i := 7) rfl)
theorem dL_doneShare_12 : decode cL_doneShare 12 = .ok (.iconst 1, 1) := da_L_doneShare_0 (12, .iconst 1, 1) (List.mem_of_getElem? (i := 8) rfl)
theorem dL_doneShare_13 : decode cL_doneShare 13 = .ok (.ireturn, 1) := da_L_doneShare_0 (13, .ireturn, 1) (List.mem_of_getElem? (i := 9) rfl)
theorem dL_doneShare_14 : decode cL_doneShare 14 = .ok (.iconst 0, 1) := da_L_doneShare_0 (14, .iconst 0, 1) (List.mem_of_getElem? (i := 10) rfl)
theorem dL_doneShare_15 : decode cL_doneShare 15 = .ok (.ireturn, 1) := da_L_doneShare_0 (15, .ireturn, 1) (List.mem_of_getElem? (i := 11) rfl)
def dl_L_meanSpool_0 : List (Nat × Instr × Nat) := [(0, .aload_n 2, 1), (1, .iconst 0, 1), (2, .aload_n 0, 1), (3, .iload_n 1, 1), (4, .invokevirtual 153, 3), (7, .dastore, 1), (8, .goto 9, 3), (11, .astore_n 3, 1), (12, .iconst 1, 1), (13, .ireturn, 1), (14, .astore_n 3, 1), (15, .iconst 2, 1), (16, .ireturn, 1), (17, .iconst 0, 1), (18, .ireturn, 1)]
theorem da_L_meanSpool_0 : ∀ r ∈ dl_L_meanSpool_0, decode cL_meanSpool r.1 = .ok r.2 := by decide +kernel
theorem dL_meanSpool_0 : decode cL_meanSpool 0 = .ok (.aload_n 2, 1) := da_L_meanSpool_0 (0, .aload_n 2, 1) (List.mem_of_getElem? (i := 0) rfl)
theorem dL_meanSpool_1 : decode cL_meanSpool 1 = .ok (.iconst 0, 1) := da_L_meanSpool_0 (1, .iconst 0, 1) (List.mem_of_getElem? (i := 1) rfl)
theorem dL_meanSpool_2 : decode cL_meanSpool 2 = .ok (.aload_n 0, 1) := da_L_meanSpool_0 (2, .aload_n 0, 1) (List.mem_of_getElem? (i := 2) rfl)
theorem dL_meanSpool_3 : decode cL_meanSpool 3 = .ok (.iload_n 1, 1) := da_L_meanSpool_0 (3, .iload_n 1, 1) (List.mem_of_getElem? (i := 3) rfl)
theorem dL_meanSpool_4 : decode cL_meanSpool 4 = .ok (.invokevirtual 153, 3) := da_L_meanSpool_0 (4, .invokevirtual 153, 3) (List.mem_of_getElem? (i := 4) rfl)
theorem dL_meanSpool_7 : decode cL_meanSpool 7 = .ok (.dastore, 1) := da_L_meanSpool_0 (7, .dastore, 1) (List.mem_of_getElem? (i := 5) rfl)
theorem dL_meanSpool_8 : decode cL_meanSpool 8 = .ok (.goto 9, 3) := da_L_meanSpool_0 (8, .goto 9, 3) (List.mem_of_getElem? (i := 6) rfl)
theorem dL_meanSpool_11 : decode cL_meanSpool 11 = .ok (.astore_n 3, 1) := da_L_meanSpool_0 (11, .astore_n 3, 1) (List.mem_of_getElem? (i := 7) rfl)
theorem dL_meanSpool_12 : decode cL_meanSpool 12 = .ok (.iconst 1, 1) := da_L_meanSpool_0 (12, .iconst 1, 1) (List.mem_of_getElem? (i := 8) rfl)
theorem dL_meanSpool_13 : decode cL_meanSpool 13 = .ok (.ireturn, 1) := da_L_meanSpool_0 (13, .ireturn, 1) (List.mem_of_getElem? (i := 9) rfl)
theorem dL_meanSpool_14 : decode cL_meanSpool 14 = .ok (.astore_n 3, 1) := da_L_meanSpool_0 (14, .astore_n 3, 1) (List.mem_of_getElem? (i := 10) rfl)
theorem dL_meanSpool_15 : decode cL_meanSpool 15 = .ok (.iconst 2, 1) := da_L_meanSpool_0 (15, .iconst 2, 1) (List.mem_of_getElem? (i := 11) rfl)
theorem dL_meanSpool_16 : decode cL_meanSpool 16 = .ok (.ireturn, 1) := da_L_meanSpool_0 (16, .ireturn, 1) (List.mem_of_getElem? (i := 12) rfl)
theorem dL_meanSpool_17 : decode cL_meanSpool 17 = .ok (.iconst 0, 1) := da_L_meanSpool_0 (17, .iconst 0, 1) (List.mem_of_getElem? (i := 13) rfl)
theorem dL_meanSpool_18 : decode cL_meanSpool 18 = .ok (.ireturn, 1) := da_L_meanSpool_0 (18, .ireturn, 1) (List.mem_of_getElem? (i := 14) rfl)
theorem bp_63 : (Int8.ofInt 63).toInt32 = 63 := by decide +kernel
theorem q_420 : zq (.instanceMethod yX6_addLine) := ⟨List.mem_of_getElem? (i := 333) (by decide +kernel), rfl⟩
theorem q_421 : zq (.selects RX6 yX6_addLine yX6_addLine) := ⟨List.mem_of_getElem? (i := 334) (by decide +kernel), rfl⟩
theorem q_422 : zq (.methodLink RL 7 yX6_addLine) := ⟨List.mem_of_getElem? (i := 332) (by decide +kernel), rfl⟩
theorem q_423 : zq (.instanceMethod yX6_addPart) := ⟨List.mem_of_getElem? (i := 455) (by decide +kernel), rfl⟩
theorem q_424 : zq (.selects RX6 yX6_addPart yX6_addPart) := ⟨List.mem_of_getElem? (i := 456) (by decide +kernel), rfl⟩
theorem q_425 : zq (.methodLink RL 17 yX6_addPart) := ⟨List.mem_of_getElem? (i := 454) (by decide +kernel), rfl⟩
theorem q_426 : zq (.instanceMethod yX6_setLength) := ⟨List.mem_of_getElem? (i := 498) (by decide +kernel), rfl⟩
theorem q_427 : zq (.selects RX6 yX6_setLength yX6_setLength) := ⟨List.mem_of_getElem? (i := 499) (by decide +kernel), rfl⟩
theorem q_428 : zq (.methodLink RL 23 yX6_setLength) := ⟨List.mem_of_getElem? (i := 497) (by decide +kernel), rfl⟩
theorem q_429 : zq (.instanceMethod yX6_length) := ⟨List.mem_of_getElem? (i := 542) (by decide +kernel), rfl⟩
theorem q_430 : zq (.selects RX6 yX6_length yX6_length) := ⟨List.mem_of_getElem? (i := 543) (by decide +kernel), rfl⟩
theorem q_431 : zq (.methodLink RL 29 yX6_length) := ⟨List.mem_of_getElem? (i := 541) (by decide +kernel), rfl⟩
theorem q_432 : zq (.instanceMethod yX6_spools) := ⟨List.mem_of_getElem? (i := 553) (by decide +kernel), rfl⟩
theorem q_433 : zq (.selects RX6 yX6_spools yX6_spools) := ⟨List.mem_of_getElem? (i := 554) (by decide +kernel), rfl⟩
theorem q_434 : zq (.methodLink RL 32 yX6_spools) := ⟨List.mem_of_getElem? (i := 552) (by decide +kernel), rfl⟩
theorem q_435 : zq (.instanceMethod yX6_spoolOf) := ⟨List.mem_of_getElem? (i := 568) (by decide +kernel), rfl⟩
theorem q_436 : zq (.selects RX6 yX6_spoolOf yX6_spoolOf) := ⟨List.mem_of_getElem? (i := 569) (by decide +kernel), rfl⟩
theorem q_437 : zq (.methodLink RL 35 yX6_spoolOf) := ⟨List.mem_of_getElem? (i := 567) (by decide +kernel), rfl⟩
theorem q_438 : zq (.instanceMethod yX6_isField) := ⟨List.mem_of_getElem? (i := 576) (by decide +kernel), rfl⟩
theorem q_439 : zq (.selects RX6 yX6_isField yX6_isField) := ⟨List.mem_of_getElem? (i := 577) (by decide +kernel), rfl⟩
theorem q_440 : zq (.methodLink RL 39 yX6_isField) := ⟨List.mem_of_getElem? (i := 575) (by decide +kernel), rfl⟩
theorem q_441 : zq (.instanceMethod yX6_addHeat) := ⟨List.mem_of_getElem? (i := 588) (by decide +kernel), rfl⟩
theorem q_442 : zq (.selects RX6 yX6_addHeat yX6_addHeat) := ⟨List.mem_of_getElem? (i := 589) (by decide +kernel), rfl⟩
theorem q_443 : zq (.methodLink RL 43 yX6_addHeat) := ⟨List.mem_of_getElem? (i := 587) (by decide +kernel), rfl⟩
theorem q_444 : zq (.instanceMethod yX6_left) := ⟨List.mem_of_getElem? (i := 600) (by decide +kernel), rfl⟩
theorem q_445 : zq (.selects RX6 yX6_left yX6_left) := ⟨List.mem_of_getElem? (i := 601) (by decide +kernel), rfl⟩
theorem q_446 : zq (.methodLink RL 47 yX6_left) := ⟨List.mem_of_getElem? (i := 599) (by decide +kernel), rfl⟩
theorem q_447 : zq (.instanceMethod yX6_losePaper) := ⟨List.mem_of_getElem? (i := 612) (by decide +kernel), rfl⟩
theorem q_448 : zq (.selects RX6 yX6_losePaper yX6_losePaper) := ⟨List.mem_of_getElem? (i := 613) (by decide +kernel), rfl⟩
theorem q_449 : zq (.methodLink RL 50 yX6_losePaper) := ⟨List.mem_of_getElem? (i := 611) (by decide +kernel), rfl⟩
theorem q_450 : zq (.instanceMethod yX6_test) := ⟨List.mem_of_getElem? (i := 623) (by decide +kernel), rfl⟩
theorem q_451 : zq (.selects RX6 yX6_test yX6_test) := ⟨List.mem_of_getElem? (i := 624) (by decide +kernel), rfl⟩
theorem q_452 : zq (.methodLink RL 54 yX6_test) := ⟨List.mem_of_getElem? (i := 622) (by decide +kernel), rfl⟩
theorem q_453 : zq (.instanceMethod yX6_give) := ⟨List.mem_of_getElem? (i := 630) (by decide +kernel), rfl⟩
theorem q_454 : zq (.selects RX6 yX6_give yX6_give) := ⟨List.mem_of_getElem? (i := 631) (by decide +kernel), rfl⟩
theorem q_455 : zq (.methodLink RL 57 yX6_give) := ⟨List.mem_of_getElem? (i := 629) (by decide +kernel), rfl⟩
theorem q_456 : zq (.instanceMethod yX6_heatOf) := ⟨List.mem_of_getElem? (i := 643) (by decide +kernel), rfl⟩
theorem q_457 : zq (.selects RX6 yX6_heatOf yX6_heatOf) := ⟨List.mem_of_getElem? (i := 644) (by decide +kernel), rfl⟩
theorem q_458 : zq (.methodLink RL 60 yX6_heatOf) := ⟨List.mem_of_getElem? (i := 642) (by decide +kernel), rfl⟩
theorem q_459 : zq (.instanceMethod yX6_bestHeat) := ⟨List.mem_of_getElem? (i := 666) (by decide +kernel), rfl⟩
theorem q_460 : zq (.selects RX6 yX6_bestHeat yX6_bestHeat) := ⟨List.mem_of_getElem? (i := 667) (by decide +kernel), rfl⟩
theorem q_461 : zq (.methodLink RL 65 yX6_bestHeat) := ⟨List.mem_of_getElem? (i := 665) (by decide +kernel), rfl⟩
theorem q_462 : zq (.instanceMethod yX6_addWelder) := ⟨List.mem_of_getElem? (i := 679) (by decide +kernel), rfl⟩
theorem q_463 : zq (.selects RX6 yX6_addWelder yX6_addWelder) := ⟨List.mem_of_getElem? (i := 680) (by decide +kernel), rfl⟩
theorem q_464 : zq (.methodLink RL 68 yX6_addWelder) := ⟨List.mem_of_getElem? (i := 678) (by decide +kernel), rfl⟩
theorem q_465 : zq (.instanceMethod yX6_ticket) := ⟨List.mem_of_getElem? (i := 687) (by decide +kernel), rfl⟩
theorem q_466 : zq (.selects RX6 yX6_ticket yX6_ticket) := ⟨List.mem_of_getElem? (i := 688) (by decide +kernel), rfl⟩
theorem q_467 : zq (.methodLink RL 72 yX6_ticket) := ⟨List.mem_of_getElem? (i := 686) (by decide +kernel), rfl⟩
theorem q_468 : zq (.instanceMethod yX6_mayWeld) := ⟨List.mem_of_getElem? (i := 700) (by decide +kernel), rfl⟩
theorem q_469 : zq (.selects RX6 yX6_mayWeld yX6_mayWeld) := ⟨List.mem_of_getElem? (i := 701) (by decide +kernel), rfl⟩
theorem q_470 : zq (.methodLink RL 75 yX6_mayWeld) := ⟨List.mem_of_getElem? (i := 699) (by decide +kernel), rfl⟩
theorem q_471 : zq (.instanceMethod yX6_weld) := ⟨List.mem_of_getElem? (i := 711) (by decide +kernel), rfl⟩
theorem q_472 : zq (.selects RX6 yX6_weld yX6_weld) := ⟨List.mem_of_getElem? (i := 712) (by decide +kernel), rfl⟩
theorem q_473 : zq (.methodLink RL 79 yX6_weld) := ⟨List.mem_of_getElem? (i := 710) (by decide +kernel), rfl⟩
theorem q_474 : zq (.instanceMethod yX6_look) := ⟨List.mem_of_getElem? (i := 731) (by decide +kernel), rfl⟩
theorem q_475 : zq (.selects RX6 yX6_look yX6_look) := ⟨List.mem_of_getElem? (i := 732) (by decide +kernel), rfl⟩
theorem q_476 : zq (.methodLink RL 82 yX6_look) := ⟨List.mem_of_getElem? (i := 730) (by decide +kernel), rfl⟩
theorem q_477 : zq (.instanceMethod yX6_repair) := ⟨List.mem_of_getElem? (i := 739) (by decide +kernel), rfl⟩
theorem q_478 : zq (.selects RX6 yX6_repair yX6_repair) := ⟨List.mem_of_getElem? (i := 740) (by decide +kernel), rfl⟩
theorem q_479 : zq (.methodLink RL 86 yX6_repair) := ⟨List.mem_of_getElem? (i := 738) (by decide +kernel), rfl⟩
theorem q_480 : zq (.instanceMethod yX6_cutOut) := ⟨List.mem_of_getElem? (i := 747) (by decide +kernel), rfl⟩
theorem q_481 : zq (.selects RX6 yX6_cutOut yX6_cutOut) := ⟨List.mem_of_getElem? (i := 748) (by decide +kernel), rfl⟩
theorem q_482 : zq (.methodLink RL 89 yX6_cutOut) := ⟨List.mem_of_getElem? (i := 746) (by decide +kernel), rfl⟩
theorem q_483 : zq (.instanceMethod yX6_joint) := ⟨List.mem_of_getElem? (i := 756) (by decide +kernel), rfl⟩
theorem q_484 : zq (.selects RX6 yX6_joint yX6_joint) := ⟨List.mem_of_getElem? (i := 757) (by decide +kernel), rfl⟩
theorem q_485 : zq (.methodLink RL 92 yX6_joint) := ⟨List.mem_of_getElem? (i := 755) (by decide +kernel), rfl⟩
theorem q_486 : zq (.instanceMethod yX6_welderOf) := ⟨List.mem_of_getElem? (i := 763) (by decide +kernel), rfl⟩
theorem q_487 : zq (.selects RX6 yX6_welderOf yX6_welderOf) := ⟨List.mem_of_getElem? (i := 764) (by decide +kernel), rfl⟩
theorem q_488 : zq (.methodLink RL 96 yX6_welderOf) := ⟨List.mem_of_getElem? (i := 762) (by decide +kernel), rfl⟩
theorem q_489 : zq (.instanceMethod yX6_toLook) := ⟨List.mem_of_getElem? (i := 771) (by decide +kernel), rfl⟩
theorem q_490 : zq (.selects RX6 yX6_toLook yX6_toLook) := ⟨List.mem_of_getElem? (i := 772) (by decide +kernel), rfl⟩
theorem q_491 : zq (.methodLink RL 99 yX6_toLook) := ⟨List.mem_of_getElem? (i := 770) (by decide +kernel), rfl⟩
theorem q_492 : zq (.instanceMethod yX6_failed) := ⟨List.mem_of_getElem? (i := 792) (by decide +kernel), rfl⟩
theorem q_493 : zq (.selects RX6 yX6_failed yX6_failed) := ⟨List.mem_of_getElem? (i := 793) (by decide +kernel), rfl⟩
theorem q_494 : zq (.methodLink RL 102 yX6_failed) := ⟨List.mem_of_getElem? (i := 791) (by decide +kernel), rfl⟩
theorem q_495 : zq (.instanceMethod yX6_pass) := ⟨List.mem_of_getElem? (i := 799) (by decide +kernel), rfl⟩
theorem q_496 : zq (.selects RX6 yX6_pass yX6_pass) := ⟨List.mem_of_getElem? (i := 800) (by decide +kernel), rfl⟩
theorem q_497 : zq (.methodLink RL 105 yX6_pass) := ⟨List.mem_of_getElem? (i := 798) (by decide +kernel), rfl⟩
theorem q_498 : zq (.instanceMethod yX6_join) := ⟨List.mem_of_getElem? (i := 808) (by decide +kernel), rfl⟩
theorem q_499 : zq (.selects RX6 yX6_join yX6_join) := ⟨List.mem_of_getElem? (i := 809) (by decide +kernel), rfl⟩
theorem q_500 : zq (.methodLink RL 108 yX6_join) := ⟨List.mem_of_getElem? (i := 807) (by decide +kernel), rfl⟩
theorem q_501 : zq (.instanceMethod yX6_blind) := ⟨List.mem_of_getElem? (i := 825) (by decide +kernel), rfl⟩
theorem q_502 : zq (.selects RX6 yX6_blind yX6_blind) := ⟨List.mem_of_getElem? (i := 826) (by decide +kernel), rfl⟩
theorem q_503 : zq (.methodLink RL 112 yX6_blind) := ⟨List.mem_of_getElem? (i := 824) (by decide +kernel), rfl⟩
theorem q_504 : zq (.instanceMethod yX6_addCircuit) := ⟨List.mem_of_getElem? (i := 833) (by decide +kernel), rfl⟩
theorem q_505 : zq (.selects RX6 yX6_addCircuit yX6_addCircuit) := ⟨List.mem_of_getElem? (i := 834) (by decide +kernel), rfl⟩
theorem q_506 : zq (.methodLink RL 116 yX6_addCircuit) := ⟨List.mem_of_getElem? (i := 832) (by decide +kernel), rfl⟩
theorem q_507 : zq (.instanceMethod yX6_open) := ⟨List.mem_of_getElem? (i := 842) (by decide +kernel), rfl⟩
theorem q_508 : zq (.selects RX6 yX6_open yX6_open) := ⟨List.mem_of_getElem? (i := 843) (by decide +kernel), rfl⟩
theorem q_509 : zq (.methodLink RL 119 yX6_open) := ⟨List.mem_of_getElem? (i := 841) (by decide +kernel), rfl⟩
theorem q_510 : zq (.instanceMethod yX6_canTest) := ⟨List.mem_of_getElem? (i := 861) (by decide +kernel), rfl⟩
theorem q_511 : zq (.selects RX6 yX6_canTest yX6_canTest) := ⟨List.mem_of_getElem? (i := 862) (by decide +kernel), rfl⟩
theorem q_512 : zq (.methodLink RL 122 yX6_canTest) := ⟨List.mem_of_getElem? (i := 860) (by decide +kernel), rfl⟩
theorem q_513 : zq (.instanceMethod yX6_testAll) := ⟨List.mem_of_getElem? (i := 877) (by decide +kernel), rfl⟩
theorem q_514 : zq (.selects RX6 yX6_testAll yX6_testAll) := ⟨List.mem_of_getElem? (i := 878) (by decide +kernel), rfl⟩
theorem q_515 : zq (.methodLink RL 125 yX6_testAll) := ⟨List.mem_of_getElem? (i := 876) (by decide +kernel), rfl⟩
theorem q_516 : zq (.instanceMethod yX6_isTested) := ⟨List.mem_of_getElem? (i := 885) (by decide +kernel), rfl⟩
theorem q_517 : zq (.selects RX6 yX6_isTested yX6_isTested) := ⟨List.mem_of_getElem? (i := 886) (by decide +kernel), rfl⟩
theorem q_518 : zq (.methodLink RL 128 yX6_isTested) := ⟨List.mem_of_getElem? (i := 884) (by decide +kernel), rfl⟩
theorem q_519 : zq (.instanceMethod yX6_lack) := ⟨List.mem_of_getElem? (i := 892) (by decide +kernel), rfl⟩
theorem q_520 : zq (.selects RX6 yX6_lack yX6_lack) := ⟨List.mem_of_getElem? (i := 893) (by decide +kernel), rfl⟩
theorem q_521 : zq (.methodLink RL 131 yX6_lack) := ⟨List.mem_of_getElem? (i := 891) (by decide +kernel), rfl⟩
theorem q_522 : zq (.instanceMethod yX6_lacks) := ⟨List.mem_of_getElem? (i := 907) (by decide +kernel), rfl⟩
theorem q_523 : zq (.selects RX6 yX6_lacks yX6_lacks) := ⟨List.mem_of_getElem? (i := 908) (by decide +kernel), rfl⟩
theorem q_524 : zq (.methodLink RL 134 yX6_lacks) := ⟨List.mem_of_getElem? (i := 906) (by decide +kernel), rfl⟩
theorem q_525 : zq (.instanceMethod yX6_ahead) := ⟨List.mem_of_getElem? (i := 922) (by decide +kernel), rfl⟩
theorem q_526 : zq (.selects RX6 yX6_ahead yX6_ahead) := ⟨List.mem_of_getElem? (i := 923) (by decide +kernel), rfl⟩
theorem q_527 : zq (.methodLink RL 138 yX6_ahead) := ⟨List.mem_of_getElem? (i := 921) (by decide +kernel), rfl⟩
theorem q_528 : zq (.instanceMethod yX6_isReady) := ⟨List.mem_of_getElem? (i := 931) (by decide +kernel), rfl⟩
theorem q_529 : zq (.selects RX6 yX6_isReady yX6_isReady) := ⟨List.mem_of_getElem? (i := 932) (by decide +kernel), rfl⟩
theorem q_530 : zq (.methodLink RL 141 yX6_isReady) := ⟨List.mem_of_getElem? (i := 930) (by decide +kernel), rfl⟩
theorem q_531 : zq (.instanceMethod yX6_turnover) := ⟨List.mem_of_getElem? (i := 943) (by decide +kernel), rfl⟩
theorem q_532 : zq (.selects RX6 yX6_turnover yX6_turnover) := ⟨List.mem_of_getElem? (i := 944) (by decide +kernel), rfl⟩
theorem q_533 : zq (.methodLink RL 144 yX6_turnover) := ⟨List.mem_of_getElem? (i := 942) (by decide +kernel), rfl⟩
theorem q_534 : zq (.instanceMethod yX6_doneShare) := ⟨List.mem_of_getElem? (i := 969) (by decide +kernel), rfl⟩
theorem q_535 : zq (.selects RX6 yX6_doneShare yX6_doneShare) := ⟨List.mem_of_getElem? (i := 970) (by decide +kernel), rfl⟩
theorem q_536 : zq (.methodLink RL 147 yX6_doneShare) := ⟨List.mem_of_getElem? (i := 968) (by decide +kernel), rfl⟩
theorem q_537 : zq (.instanceMethod yX6_meanSpool) := ⟨List.mem_of_getElem? (i := 979) (by decide +kernel), rfl⟩
theorem q_538 : zq (.selects RX6 yX6_meanSpool yX6_meanSpool) := ⟨List.mem_of_getElem? (i := 980) (by decide +kernel), rfl⟩
theorem q_539 : zq (.methodLink RL 153 yX6_meanSpool) := ⟨List.mem_of_getElem? (i := 978) (by decide +kernel), rfl⟩
def hh_L_addLine : List (Nat × Nat × Nat × Nat) := [(0, 9, 12, 13), (0, 9, 15, 15)]
theorem mi_L_addLine : zHI yL_addLine cL_addLine 4 hh_L_addLine 3 := ⟨⟨List.mem_of_getElem? (i := 329) (by decide +kernel), rfl⟩, ⟨List.mem_of_getElem? (i := 49) (by decide +kernel), rfl⟩, ⟨List.mem_of_getElem? (i := 328) (by decide +kernel), rfl⟩, by decide, by decide, by decide +kernel⟩
def hh_L_addPart : List (Nat × Nat × Nat × Nat) := [(0, 12, 15, 21), (0, 12, 19, 13), (0, 12, 23, 15)]
theorem mi_L_addPart : zHI yL_addPart cL_addPart 6 hh_L_addPart 5 := ⟨⟨List.mem_of_getElem? (i := 429) (by decide +kernel), rfl⟩, ⟨List.mem_of_getElem? (i := 49) (by decide +kernel), rfl⟩, ⟨List.mem_of_getElem? (i := 428) (by decide +kernel), rfl⟩, by decide, by decide, by decide +kernel⟩
def hh_L_setLength : List (Nat × Nat × Nat × Nat) := [(0, 12, 15, 21), (0, 12, 19, 13), (0, 12, 23, 27)]
theorem mi_L_setLength : zHI yL_setLength cL_setLength 6 hh_L_setLength 5 := ⟨⟨List.mem_of_getElem? (i := 495) (by decide +kernel), rfl⟩, ⟨List.mem_of_getElem? (i := 49) (by decide +kernel), rfl⟩, ⟨List.mem_of_getElem? (i := 494) (by decide +kernel), rfl⟩, by decide, by decide, by decide +kernel⟩
def hh_L_length : List (Nat × Nat × Nat × Nat) := [(0, 9, 12, 21)]
theorem mi_L_length : zHI yL_length cL_length 4 hh_L_length 3 := ⟨⟨List.mem_of_getElem? (i := 540) (by decide +kernel), rfl⟩, ⟨List.mem_of_getElem? (i := 49) (by decide +kernel), rfl⟩, ⟨List.mem_of_getElem? (i := 539) (by decide +kernel), rfl⟩, by decide, by decide, by decide +kernel⟩
def hh_L_spools : List (Nat × Nat × Nat × Nat) := [(0, 9, 12, 21)]
theorem mi_L_spools : zHI yL_spools cL_spools 4 hh_L_spools 3 := ⟨⟨List.mem_of_getElem? (i := 551) (by decide +kernel), rfl⟩, ⟨List.mem_of_getElem? (i := 49) (by decide +kernel), rfl⟩, ⟨List.mem_of_getElem? (i := 550) (by decide +kernel), rfl⟩, by decide, by decide, by decide +kernel⟩
def hh_L_spoolOf : List (Nat × Nat × Nat × Nat) := [(0, 10, 13, 21)]
theorem mi_L_spoolOf : zHI yL_spoolOf cL_spoolOf 5 hh_L_spoolOf 4 := ⟨⟨List.mem_of_getElem? (i := 566) (by decide +kernel), rfl⟩, ⟨List.mem_of_getElem? (i := 49) (by decide +kernel), rfl⟩, ⟨List.mem_of_getElem? (i := 565) (by decide +kernel), rfl⟩, by decide, by decide, by decide +kernel⟩
def hh_L_isField : List (Nat × Nat × Nat × Nat) := [(0, 17, 20, 21)]
theorem mi_L_isField : zHI yL_isField cL_isField 5 hh_L_isField 4 := ⟨⟨List.mem_of_getElem? (i := 574) (by decide +kernel), rfl⟩, ⟨List.mem_of_getElem? (i := 49) (by decide +kernel), rfl⟩, ⟨List.mem_of_getElem? (i := 573) (by decide +kernel), rfl⟩, by decide, by decide, by decide +kernel⟩
def hh_L_addHeat : List (Nat × Nat × Nat × Nat) := [(0, 12, 15, 13), (0, 12, 19, 15)]
theorem mi_L_addHeat : zHI yL_addHeat cL_addHeat 6 hh_L_addHeat 5 := ⟨⟨List.mem_of_getElem? (i := 586) (by decide +kernel), rfl⟩, ⟨List.mem_of_getElem? (i := 49) (by decide +kernel), rfl⟩, ⟨List.mem_of_getElem? (i := 585) (by decide +kernel), rfl⟩, by decide, by decide, by decide +kernel⟩
def hh_L_left : List (Nat × Nat × Nat × Nat) := [(0, 9, 12, 21)]
theorem mi_L_left : zHI yL_left cL_left 4 hh_L_left 3 := ⟨⟨List.mem_of_getElem? (i := 598) (by decide +kernel), rfl⟩, ⟨List.mem_of_getElem? (i := 49) (by decide +kernel), rfl⟩, ⟨List.mem_of_getElem? (i := 597) (by decide +kernel), rfl⟩, by decide, by decide, by decide +kernel⟩
def hh_L_losePaper : List (Nat × Nat × Nat × Nat) := [(0, 16, 19, 21)]
theorem mi_L_losePaper : zHI yL_losePaper cL_losePaper 4 hh_L_losePaper 3 := ⟨⟨List.mem_of_getElem? (i := 610) (by decide +kernel), rfl⟩, ⟨List.mem_of_getElem? (i := 49) (by decide +kernel), rfl⟩, ⟨List.mem_of_getElem? (i := 609) (by decide +kernel), rfl⟩, by decide, by decide, by decide +kernel⟩
def hh_L_test : List (Nat × Nat × Nat × Nat) := [(0, 16, 19, 21)]
theorem mi_L_test : zHI yL_test cL_test 4 hh_L_test 3 := ⟨⟨List.mem_of_getElem? (i := 621) (by decide +kernel), rfl⟩, ⟨List.mem_of_getElem? (i := 49) (by decide +kernel), rfl⟩, ⟨List.mem_of_getElem? (i := 620) (by decide +kernel), rfl⟩, by decide, by decide, by decide +kernel⟩
def hh_L_give : List (Nat × Nat × Nat × Nat) := [(0, 12, 15, 21), (0, 12, 19, 27)]
theorem mi_L_give : zHI yL_give cL_give 6 hh_L_give 5 := ⟨⟨List.mem_of_getElem? (i := 628) (by decide +kernel), rfl⟩, ⟨List.mem_of_getElem? (i := 49) (by decide +kernel), rfl⟩, ⟨List.mem_of_getElem? (i := 627) (by decide +kernel), rfl⟩, by decide, by decide, by decide +kernel⟩
def hh_L_heatOf : List (Nat × Nat × Nat × Nat) := [(0, 10, 13, 21), (0, 10, 17, 63)]
theorem mi_L_heatOf : zHI yL_heatOf cL_heatOf 5 hh_L_heatOf 4 := ⟨⟨List.mem_of_getElem? (i := 640) (by decide +kernel), rfl⟩, ⟨List.mem_of_getElem? (i := 49) (by decide +kernel), rfl⟩, ⟨List.mem_of_getElem? (i := 639) (by decide +kernel), rfl⟩, by decide, by decide, by decide +kernel⟩
def hh_L_bestHeat : List (Nat × Nat × Nat × Nat) := [(0, 12, 15, 21), (0, 12, 19, 13), (0, 12, 23, 63)]
theorem mi_L_bestHeat : zHI yL_bestHeat cL_bestHeat 6 hh_L_bestHeat 5 := ⟨⟨List.mem_of_getElem? (i := 664) (by decide +kernel), rfl⟩, ⟨List.mem_of_getElem? (i := 49) (by decide +kernel), rfl⟩, ⟨List.mem_of_getElem? (i := 663) (by decide +kernel), rfl⟩, by decide, by decide, by decide +kernel⟩
def hh_L_addWelder : List (Nat × Nat × Nat × Nat) := [(0, 8, 11, 15)]
theorem mi_L_addWelder : zHI yL_addWelder cL_addWelder 3 hh_L_addWelder 2 := ⟨⟨List.mem_of_getElem? (i := 677) (by decide +kernel), rfl⟩, ⟨List.mem_of_getElem? (i := 49) (by decide +kernel), rfl⟩, ⟨List.mem_of_getElem? (i := 676) (by decide +kernel), rfl⟩, by decide, by decide, by decide +kernel⟩
def hh_L_ticket : List (Nat × Nat × Nat × Nat) := [(0, 12, 15, 21), (0, 12, 19, 13)]
theorem mi_L_ticket : zHI yL_ticket cL_ticket 6 hh_L_ticket 5 := ⟨⟨List.mem_of_getElem? (i := 685) (by decide +kernel), rfl⟩, ⟨List.mem_of_getElem? (i := 49) (by decide +kernel), rfl⟩, ⟨List.mem_of_getElem? (i := 684) (by decide +kernel), rfl⟩, by decide, by decide, by decide +kernel⟩
def hh_L_mayWeld : List (Nat × Nat × Nat × Nat) := [(0, 19, 22, 21)]
theorem mi_L_mayWeld : zHI yL_mayWeld cL_mayWeld 6 hh_L_mayWeld 5 := ⟨⟨List.mem_of_getElem? (i := 698) (by decide +kernel), rfl⟩, ⟨List.mem_of_getElem? (i := 49) (by decide +kernel), rfl⟩, ⟨List.mem_of_getElem? (i := 697) (by decide +kernel), rfl⟩, by decide, by decide, by decide +kernel⟩
def hh_L_weld : List (Nat × Nat × Nat × Nat) := [(0, 12, 15, 21), (0, 12, 19, 27)]
theorem mi_L_weld : zHI yL_weld cL_weld 6 hh_L_weld 5 := ⟨⟨List.mem_of_getElem? (i := 709) (by decide +kernel), rfl⟩, ⟨List.mem_of_getElem? (i := 49) (by decide +kernel), rfl⟩, ⟨List.mem_of_getElem? (i := 708) (by decide +kernel), rfl⟩, by decide, by decide, by decide +kernel⟩
def hh_L_look : List (Nat × Nat × Nat × Nat) := [(0, 12, 15, 21), (0, 12, 19, 27)]
theorem mi_L_look : zHI yL_look cL_look 6 hh_L_look 5 := ⟨⟨List.mem_of_getElem? (i := 729) (by decide +kernel), rfl⟩, ⟨List.mem_of_getElem? (i := 49) (by decide +kernel), rfl⟩, ⟨List.mem_of_getElem? (i := 728) (by decide +kernel), rfl⟩, by decide, by decide, by decide +kernel⟩
def hh_L_repair : List (Nat × Nat × Nat × Nat) := [(0, 12, 15, 21), (0, 12, 19, 27)]
theorem mi_L_repair : zHI yL_repair cL_repair 6 hh_L_repair 5 := ⟨⟨List.mem_of_getElem? (i := 737) (by decide +kernel), rfl⟩, ⟨List.mem_of_getElem? (i := 49) (by decide +kernel), rfl⟩, ⟨List.mem_of_getElem? (i := 736) (by decide +kernel), rfl⟩, by decide, by decide, by decide +kernel⟩
def hh_L_cutOut : List (Nat × Nat × Nat × Nat) := [(0, 10, 13, 21), (0, 10, 17, 27)]
theorem mi_L_cutOut : zHI yL_cutOut cL_cutOut 5 hh_L_cutOut 4 := ⟨⟨List.mem_of_getElem? (i := 745) (by decide +kernel), rfl⟩, ⟨List.mem_of_getElem? (i := 49) (by decide +kernel), rfl⟩, ⟨List.mem_of_getElem? (i := 744) (by decide +kernel), rfl⟩, by decide, by decide, by decide +kernel⟩
def hh_L_joint : List (Nat × Nat × Nat × Nat) := [(0, 10, 13, 21)]
theorem mi_L_joint : zHI yL_joint cL_joint 5 hh_L_joint 4 := ⟨⟨List.mem_of_getElem? (i := 754) (by decide +kernel), rfl⟩, ⟨List.mem_of_getElem? (i := 49) (by decide +kernel), rfl⟩, ⟨List.mem_of_getElem? (i := 753) (by decide +kernel), rfl⟩, by decide, by decide, by decide +kernel⟩
def hh_L_welderOf : List (Nat × Nat × Nat × Nat) := [(0, 10, 13, 21), (0, 10, 17, 63)]
theorem mi_L_welderOf : zHI yL_welderOf cL_welderOf 5 hh_L_welderOf 4 := ⟨⟨List.mem_of_getElem? (i := 761) (by decide +kernel), rfl⟩, ⟨List.mem_of_getElem? (i := 49) (by decide +kernel), rfl⟩, ⟨List.mem_of_getElem? (i := 760) (by decide +kernel), rfl⟩, by decide, by decide, by decide +kernel⟩
def hh_L_toLook : List (Nat × Nat × Nat × Nat) := [(0, 9, 12, 21)]
theorem mi_L_toLook : zHI yL_toLook cL_toLook 4 hh_L_toLook 3 := ⟨⟨List.mem_of_getElem? (i := 769) (by decide +kernel), rfl⟩, ⟨List.mem_of_getElem? (i := 49) (by decide +kernel), rfl⟩, ⟨List.mem_of_getElem? (i := 768) (by decide +kernel), rfl⟩, by decide, by decide, by decide +kernel⟩
def hh_L_failed : List (Nat × Nat × Nat × Nat) := [(0, 9, 12, 21)]
theorem mi_L_failed : zHI yL_failed cL_failed 4 hh_L_failed 3 := ⟨⟨List.mem_of_getElem? (i := 790) (by decide +kernel), rfl⟩, ⟨List.mem_of_getElem? (i := 49) (by decide +kernel), rfl⟩, ⟨List.mem_of_getElem? (i := 789) (by decide +kernel), rfl⟩, by decide, by decide, by decide +kernel⟩
def hh_L_pass : List (Nat × Nat × Nat × Nat) := [(0, 9, 12, 13), (0, 9, 15, 15)]
theorem mi_L_pass : zHI yL_pass cL_pass 4 hh_L_pass 3 := ⟨⟨List.mem_of_getElem? (i := 797) (by decide +kernel), rfl⟩, ⟨List.mem_of_getElem? (i := 49) (by decide +kernel), rfl⟩, ⟨List.mem_of_getElem? (i := 796) (by decide +kernel), rfl⟩, by decide, by decide, by decide +kernel⟩
def hh_L_join : List (Nat × Nat × Nat × Nat) := [(0, 21, 24, 21), (0, 21, 28, 13), (0, 21, 32, 27)]
theorem mi_L_join : zHI yL_join cL_join 7 hh_L_join 6 := ⟨⟨List.mem_of_getElem? (i := 806) (by decide +kernel), rfl⟩, ⟨List.mem_of_getElem? (i := 49) (by decide +kernel), rfl⟩, ⟨List.mem_of_getElem? (i := 805) (by decide +kernel), rfl⟩, by decide, by decide, by decide +kernel⟩
def hh_L_blind : List (Nat × Nat × Nat × Nat) := [(0, 19, 22, 21), (0, 19, 26, 27)]
theorem mi_L_blind : zHI yL_blind cL_blind 6 hh_L_blind 5 := ⟨⟨List.mem_of_getElem? (i := 823) (by decide +kernel), rfl⟩, ⟨List.mem_of_getElem? (i := 49) (by decide +kernel), rfl⟩, ⟨List.mem_of_getElem? (i := 822) (by decide +kernel), rfl⟩, by decide, by decide, by decide +kernel⟩
def hh_L_addCircuit : List (Nat × Nat × Nat × Nat) := [(0, 9, 12, 13), (0, 9, 15, 15)]
theorem mi_L_addCircuit : zHI yL_addCircuit cL_addCircuit 4 hh_L_addCircuit 3 := ⟨⟨List.mem_of_getElem? (i := 831) (by decide +kernel), rfl⟩, ⟨List.mem_of_getElem? (i := 49) (by decide +kernel), rfl⟩, ⟨List.mem_of_getElem? (i := 830) (by decide +kernel), rfl⟩, by decide, by decide, by decide +kernel⟩
def hh_L_open : List (Nat × Nat × Nat × Nat) := [(0, 9, 12, 21)]
theorem mi_L_open : zHI yL_open cL_open 4 hh_L_open 3 := ⟨⟨List.mem_of_getElem? (i := 840) (by decide +kernel), rfl⟩, ⟨List.mem_of_getElem? (i := 49) (by decide +kernel), rfl⟩, ⟨List.mem_of_getElem? (i := 839) (by decide +kernel), rfl⟩, by decide, by decide, by decide +kernel⟩
def hh_L_canTest : List (Nat × Nat × Nat × Nat) := [(0, 16, 19, 21)]
theorem mi_L_canTest : zHI yL_canTest cL_canTest 4 hh_L_canTest 3 := ⟨⟨List.mem_of_getElem? (i := 859) (by decide +kernel), rfl⟩, ⟨List.mem_of_getElem? (i := 49) (by decide +kernel), rfl⟩, ⟨List.mem_of_getElem? (i := 858) (by decide +kernel), rfl⟩, by decide, by decide, by decide +kernel⟩
def hh_L_testAll : List (Nat × Nat × Nat × Nat) := [(0, 9, 12, 21), (0, 9, 15, 27)]
theorem mi_L_testAll : zHI yL_testAll cL_testAll 4 hh_L_testAll 3 := ⟨⟨List.mem_of_getElem? (i := 875) (by decide +kernel), rfl⟩, ⟨List.mem_of_getElem? (i := 49) (by decide +kernel), rfl⟩, ⟨List.mem_of_getElem? (i := 874) (by decide +kernel), rfl⟩, by decide, by decide, by decide +kernel⟩
def hh_L_isTested : List (Nat × Nat × Nat × Nat) := [(0, 16, 19, 21)]
theorem mi_L_isTested : zHI yL_isTested cL_isTested 4 hh_L_isTested 3 := ⟨⟨List.mem_of_getElem? (i := 883) (by decide +kernel), rfl⟩, ⟨List.mem_of_getElem? (i := 49) (by decide +kernel), rfl⟩, ⟨List.mem_of_getElem? (i := 882) (by decide +kernel), rfl⟩, by decide, by decide, by decide +kernel⟩
def hh_L_lack : List (Nat × Nat × Nat × Nat) := [(0, 10, 13, 21)]
theorem mi_L_lack : zHI yL_lack cL_lack 5 hh_L_lack 4 := ⟨⟨List.mem_of_getElem? (i := 890) (by decide +kernel), rfl⟩, ⟨List.mem_of_getElem? (i := 49) (by decide +kernel), rfl⟩, ⟨List.mem_of_getElem? (i := 889) (by decide +kernel), rfl⟩, by decide, by decide, by decide +kernel⟩
def hh_L_lacks : List (Nat × Nat × Nat × Nat) := [(0, 9, 12, 13)]
theorem mi_L_lacks : zHI yL_lacks cL_lacks 4 hh_L_lacks 3 := ⟨⟨List.mem_of_getElem? (i := 905) (by decide +kernel), rfl⟩, ⟨List.mem_of_getElem? (i := 49) (by decide +kernel), rfl⟩, ⟨List.mem_of_getElem? (i := 904) (by decide +kernel), rfl⟩, by decide, by decide, by decide +kernel⟩
def hh_L_ahead : List (Nat × Nat × Nat × Nat) := [(0, 17, 20, 21), (0, 17, 24, 13), (0, 17, 28, 27)]
theorem mi_L_ahead : zHI yL_ahead cL_ahead 5 hh_L_ahead 4 := ⟨⟨List.mem_of_getElem? (i := 920) (by decide +kernel), rfl⟩, ⟨List.mem_of_getElem? (i := 49) (by decide +kernel), rfl⟩, ⟨List.mem_of_getElem? (i := 919) (by decide +kernel), rfl⟩, by decide, by decide, by decide +kernel⟩
def hh_L_isReady : List (Nat × Nat × Nat × Nat) := [(0, 16, 19, 21)]
theorem mi_L_isReady : zHI yL_isReady cL_isReady 4 hh_L_isReady 3 := ⟨⟨List.mem_of_getElem? (i := 929) (by decide +kernel), rfl⟩, ⟨List.mem_of_getElem? (i := 49) (by decide +kernel), rfl⟩, ⟨List.mem_of_getElem? (i := 928) (by decide +kernel), rfl⟩, by decide, by decide, by decide +kernel⟩
def hh_L_turnover : List (Nat × Nat × Nat × Nat) := [(0, 9, 12, 63)]
theorem mi_L_turnover : zHI yL_turnover cL_turnover 4 hh_L_turnover 3 := ⟨⟨List.mem_of_getElem? (i := 941) (by decide +kernel), rfl⟩, ⟨List.mem_of_getElem? (i := 49) (by decide +kernel), rfl⟩, ⟨List.mem_of_getElem? (i := 940) (by decide +kernel), rfl⟩, by decide, by decide, by decide +kernel⟩
def hh_L_doneShare : List (Nat × Nat × Nat × Nat) := [(0, 8, 11, 151)]
theorem mi_L_doneShare : zHI yL_doneShare cL_doneShare 3 hh_L_doneShare 2 := ⟨⟨List.mem_of_getElem? (i := 953) (by decide +kernel), rfl⟩, ⟨List.mem_of_getElem? (i := 49) (by decide +kernel), rfl⟩, ⟨List.mem_of_getElem? (i := 952) (by decide +kernel), rfl⟩, by decide, by decide, by decide +kernel⟩
def hh_L_meanSpool : List (Nat × Nat × Nat × Nat) := [(0, 8, 11, 21), (0, 8, 14, 151)]
theorem mi_L_meanSpool : zHI yL_meanSpool cL_meanSpool 4 hh_L_meanSpool 3 := ⟨⟨List.mem_of_getElem? (i := 977) (by decide +kernel), rfl⟩, ⟨List.mem_of_getElem? (i := 49) (by decide +kernel), rfl⟩, ⟨List.mem_of_getElem? (i := 976) (by decide +kernel), rfl⟩, by decide, by decide, by decide +kernel⟩
def f_L_addLine (g : Nat → Nat) (x0 : Option Nat) (x1 : Int32) (x2 : Option Nat) (h : AH) (Xf : Nat → AH → Prop) (K : Int32 → AH → Prop) : Prop :=
  cast h x0 7 (f_X6_addLine g x0 x1 h (fun e h9 => if e = 1 then (K 1 h9) else (if e = 2 then (K 2 h9) else (False))) (fun v1 h2 => stJ h2 x2 0 (v1.toInt64) fun h3 => K 0 h3))
theorem m_L_addLine_e {Z : zT} {X : zX} (hC : Cx Z X RL cL_addLine 4 7 1 6 111) (hr : X.2.2.2.2.2.2.2.2.1.sig.returnType = some .int) (htb : (zc X).exceptionTable.toList = tableOf hh_L_addLine) (hNc : zNc (zs X)) {x0 : Option Nat} {x1 : Int32} {x2 : Option Nat} {h : AH} {Xf : Nat → AH → Prop} {K : Int32 → AH → Prop} {cells slots : Nat} (hc : cells + 1 ≤ 1) (hs : slots + 6 ≤ 6) (hf : f_L_addLine Z.2.2 x0 x1 x2 h Xf K) : V Z X (zEx Z X (zQi Z K) Xf 1 6) 4 h [(0, va_rf x0), (1, .int x1), (2, va_rf x2)] cells slots 0 [] := by
  unfold f_L_addLine at hf
  exact (z_aload_n (q := 1) hC dL_addLine_0 rfl 2 rfl (z_iconst (q := 2) (v := 0) hC dL_addLine_1 rfl ic_0 (z_aload_n (q := 3) hC dL_addLine_2 rfl 0 rfl (z_iload_n (q := 4) hC dL_addLine_3 rfl 1 rfl (z_callTi (q := 7) (As := [.int x1]) hC mi_X6_addLine ⟨q_420, q_421⟩ q_422 zct_6 (F := f_X6_addLine Z.2.2 x0 x1) (m_X6_addLine Z X.2.1 hC.2.2.2.2.2.2.2.2.2.1 x0 x1) (Nat.le_of_ble_eq_true rfl) (Nat.le_of_ble_eq_true rfl) rfl (by simp [va_rf_cat, z_ci, z_cj, z_cf, z_cd]) (by omega) (by omega) dL_addLine_4 rfl (BX := fun e h9 => if e = 1 then (K 1 h9) else (if e = 2 then (K 2 h9) else (False))) hf rfl (fun e h9 hf => z_ite hf (fun he hf => z_catch hC hNc htb he [] (0, 9, 12, 13) [(0, 9, 15, 15)] rfl trivial (by decide) (by decide) zcl_1 zca_1 (rfl : _ = 12) (fun q9 => (z_astoreR_n (q := 13) (L' := [(3, va_rf (some q9)), (0, va_rf x0), (1, .int x1), (2, va_rf x2)]) hC dL_addLine_12 rfl rfl (Nat.le_of_ble_eq_true rfl) 2 rfl rfl rfl (z_iconst (q := 14) (v := 1) hC dL_addLine_13 rfl ic_1 (V.vx (z_iret hC hr rfl (by omega) (by omega) dL_addLine_14 hf)))))) (fun _ hf => z_ite hf (fun he hf => z_catch hC hNc htb he [(0, 9, 12, 13)] (0, 9, 15, 15) [] rfl ⟨⟨by decide, 1, zcl_1, by decide⟩, trivial⟩ (by decide) (by decide) zcl_2 zca_2 (rfl : _ = 15) (fun q9 => (z_astoreR_n (q := 16) (L' := [(3, va_rf (some q9)), (0, va_rf x0), (1, .int x1), (2, va_rf x2)]) hC dL_addLine_15 rfl rfl (Nat.le_of_ble_eq_true rfl) 2 rfl rfl rfl (z_iconst (q := 17) (v := 2) hC dL_addLine_16 rfl ic_2 (V.vx (z_iret hC hr rfl (by omega) (by omega) dL_addLine_17 hf)))))) (fun _ hf => hf.elim))) (fun v1 h2 hf => (z_i2l (q := 8) hC dL_addLine_7 rfl (z_last (q := 9) hC dL_addLine_8 rfl hf fun h3 hf => (z_goto (tgt := 18) hC dL_addLine_9 rfl (z_iconst (q := 19) (v := 0) hC dL_addLine_18 rfl ic_0 (V.vx (z_iret hC hr rfl (by omega) (by omega) dL_addLine_19 hf))))))))))))
theorem m_L_addLine (Z : zT) (l : Launch) (htr : l.stackTraces = false) (x0 : Option Nat) (x1 : Int32) (x2 : Option Nat) : zHi Z l yL_addLine cL_addLine 4 hh_L_addLine 7 1 6 111 [va_rf x0, .int x1, va_rf x2] (f_L_addLine Z.2.2 x0 x1 x2) := by
  intro h K
  refine vx_ofWH (cc := cL_addLine) (maxL := 4) (ret := some .int) (hh := hh_L_addLine) (by decide) rfl ?_
  intro p e s m args below meth c s₁ B hml hv
  obtain ⟨rfl, hw, hNc, hf⟩ := hv
  exact V.entry (X := (p, l, e, _, s, m, _, below, meth, c)) (m_L_addLine_e (z_cxH B hml htr hw) B.returns (vx_table (x := yL_addLine) B (zq_at hw.1 mi_L_addLine.1 _)) hNc (Nat.le_of_ble_eq_true rfl) (Nat.le_of_ble_eq_true rfl) hf) hw.2.2.1 (by simp [lv_args, va_rf_cat, z_ci, z_cj, z_cf, z_cd]) (by simp [lg_sl, va_rf_cat, z_ci, z_cj, z_cf, z_cd])
def f_L_addPart (g : Nat → Nat) (x0 : Option Nat) (x1 : Int32) (x2 : Int32) (x3 : Int32) (x4 : Option Nat) (h : AH) (Xf : Nat → AH → Prop) (K : Int32 → AH → Prop) : Prop :=
  cast h x0 7 (f_X6_addPart g x0 x1 x2 x3 h (fun e h9 => if e = 3 then (K 1 h9) else (if e = 1 then (K 2 h9) else (if e = 2 then (K 3 h9) else (False)))) (fun v1 h2 => stJ h2 x4 0 (v1.toInt64) fun h3 => K 0 h3))
theorem m_L_addPart_e {Z : zT} {X : zX} (hC : Cx Z X RL cL_addPart 6 9 2 12 156) (hr : X.2.2.2.2.2.2.2.2.1.sig.returnType = some .int) (htb : (zc X).exceptionTable.toList = tableOf hh_L_addPart) (hNc : zNc (zs X)) {x0 : Option Nat} {x1 : Int32} {x2 : Int32} {x3 : Int32} {x4 : Option Nat} {h : AH} {Xf : Nat → AH → Prop} {K : Int32 → AH → Prop} {cells slots : Nat} (hc : cells + 2 ≤ 2) (hs : slots + 12 ≤ 12) (hf : f_L_addPart Z.2.2 x0 x1 x2 x3 x4 h Xf K) : V Z X (zEx Z X (zQi Z K) Xf 2 12) 6 h [(0, va_rf x0), (1, .int x1), (2, .int x2), (3, .int x3), (4, va_rf x4)] cells slots 0 [] := by
  unfold f_L_addPart at hf
  exact (z_aload (q := 2) hC dL_addPart_0 rfl 4 rfl (z_iconst (q := 3) (v := 0) hC dL_addPart_2 rfl ic_0 (z_aload_n (q := 4) hC dL_addPart_3 rfl 0 rfl (z_iload_n (q := 5) hC dL_addPart_4 rfl 1 rfl (z_iload_n (q := 6) hC dL_addPart_5 rfl 2 rfl (z_iload_n (q := 7) hC dL_addPart_6 rfl 3 rfl (z_callTi (q := 10) (As := [.int x1, .int x2, .int x3]) hC mi_X6_addPart ⟨q_423, q_424⟩ q_425 zct_6 (F := f_X6_addPart Z.2.2 x0 x1 x2 x3) (m_X6_addPart Z X.2.1 hC.2.2.2.2.2.2.2.2.2.1 x0 x1 x2 x3) (Nat.le_of_ble_eq_true rfl) (Nat.le_of_ble_eq_true rfl) rfl (by simp [va_rf_cat, z_ci, z_cj, z_cf, z_cd]) (by omega) (by omega) dL_addPart_7 rfl (BX := fun e h9 => if e = 3 then (K 1 h9) else (if e = 1 then (K 2 h9) else (if e = 2 then (K 3 h9) else (False)))) hf rfl (fun e h9 hf => z_ite hf (fun he hf => z_catch hC hNc htb he [] (0, 12, 15, 21) [(0, 12, 19, 13), (0, 12, 23, 15)] rfl trivial (by decide) (by decide) zcl_3 zca_3 (rfl : _ = 15) (fun q9 => (z_astoreR (q := 17) (L' := [(5, va_rf (some q9)), (0, va_rf x0), (1, .int x1), (2, .int x2), (3, .int x3), (4, va_rf x4)]) hC dL_addPart_15 rfl (Nat.le_of_ble_eq_true rfl) 4 rfl rfl rfl (z_iconst (q := 18) (v := 1) hC dL_addPart_17 rfl ic_1 (V.vx (z_iret hC hr rfl (by omega) (by omega) dL_addPart_18 hf)))))) (fun _ hf => z_ite hf (fun he hf => z_catch hC hNc htb he [(0, 12, 15, 21)] (0, 12, 19, 13) [(0, 12, 23, 15)] rfl ⟨⟨by decide, 3, zcl_3, by decide⟩, trivial⟩ (by decide) (by decide) zcl_1 zca_1 (rfl : _ = 19) (fun q9 => (z_astoreR (q := 21) (L' := [(5, va_rf (some q9)), (0, va_rf x0), (1, .int x1), (2, .int x2), (3, .int x3), (4, va_rf x4)]) hC dL_addPart_19 rfl (Nat.le_of_ble_eq_true rfl) 4 rfl rfl rfl (z_iconst (q := 22) (v := 2) hC dL_addPart_21 rfl ic_2 (V.vx (z_iret hC hr rfl (by omega) (by omega) dL_addPart_22 hf)))))) (fun _ hf => z_ite hf (fun he hf => z_catch hC hNc htb he [(0, 12, 15, 21), (0, 12, 19, 13)] (0, 12, 23, 15) [] rfl ⟨⟨by decide, 3, zcl_3, by decide⟩, ⟨⟨by decide, 1, zcl_1, by decide⟩, trivial⟩⟩ (by decide) (by decide) zcl_2 zca_2 (rfl : _ = 23) (fun q9 => (z_astoreR (q := 25) (L' := [(5, va_rf (some q9)), (0, va_rf x0), (1, .int x1), (2, .int x2), (3, .int x3), (4, va_rf x4)]) hC dL_addPart_23 rfl (Nat.le_of_ble_eq_true rfl) 4 rfl rfl rfl (z_iconst (q := 26) (v := 3) hC dL_addPart_25 rfl ic_3 (V.vx (z_iret hC hr rfl (by omega) (by omega) dL_addPart_26 hf)))))) (fun _ hf => hf.elim)))) (fun v1 h2 hf => (z_i2l (q := 11) hC dL_addPart_10 rfl (z_last (q := 12) hC dL_addPart_11 rfl hf fun h3 hf => (z_goto (tgt := 27) hC dL_addPart_12 rfl (z_iconst (q := 28) (v := 0) hC dL_addPart_27 rfl ic_0 (V.vx (z_iret hC hr rfl (by omega) (by omega) dL_addPart_28 hf))))))))))))))
theorem m_L_addPart (Z : zT) (l : Launch) (htr : l.stackTraces = false) (x0 : Option Nat) (x1 : Int32) (x2 : Int32) (x3 : Int32) (x4 : Option Nat) : zHi Z l yL_addPart cL_addPart 6 hh_L_addPart 9 2 12 156 [va_rf x0, .int x1, .int x2, .int x3, va_rf x4] (f_L_addPart Z.2.2 x0 x1 x2 x3 x4) := by
  intro h K
  refine vx_ofWH (cc := cL_addPart) (maxL := 6) (ret := some .int) (hh := hh_L_addPart) (by decide) rfl ?_
  intro p e s m args below meth c s₁ B hml hv
  obtain ⟨rfl, hw, hNc, hf⟩ := hv
  exact V.entry (X := (p, l, e, _, s, m, _, below, meth, c)) (m_L_addPart_e (z_cxH B hml htr hw) B.returns (vx_table (x := yL_addPart) B (zq_at hw.1 mi_L_addPart.1 _)) hNc (Nat.le_of_ble_eq_true rfl) (Nat.le_of_ble_eq_true rfl) hf) hw.2.2.1 (by simp [lv_args, va_rf_cat, z_ci, z_cj, z_cf, z_cd]) (by simp [lg_sl, va_rf_cat, z_ci, z_cj, z_cf, z_cd])
def f_L_setLength (g : Nat → Nat) (x0 : Option Nat) (x1 : Int32) (x2 : Int32) (x3 : Int32) (x4 : Option Nat) (h : AH) (Xf : Nat → AH → Prop) (K : Int32 → AH → Prop) : Prop :=
  cast h x0 7 (f_X6_setLength g x0 x1 x2 x3 h (fun e h9 => if e = 3 then (K 1 h9) else (if e = 1 then (K 2 h9) else (if e = 4 then (K 3 h9) else (False)))) (fun v1 h2 => stJ h2 x4 0 (v1.toInt64) fun h3 => K 0 h3))
theorem m_L_setLength_e {Z : zT} {X : zX} (hC : Cx Z X RL cL_setLength 6 10 3 18 180) (hr : X.2.2.2.2.2.2.2.2.1.sig.returnType = some .int) (htb : (zc X).exceptionTable.toList = tableOf hh_L_setLength) (hNc : zNc (zs X)) {x0 : Option Nat} {x1 : Int32} {x2 : Int32} {x3 : Int32} {x4 : Option Nat} {h : AH} {Xf : Nat → AH → Prop} {K : Int32 → AH → Prop} {cells slots : Nat} (hc : cells + 3 ≤ 3) (hs : slots + 18 ≤ 18) (hf : f_L_setLength Z.2.2 x0 x1 x2 x3 x4 h Xf K) : V Z X (zEx Z X (zQi Z K) Xf 3 18) 6 h [(0, va_rf x0), (1, .int x1), (2, .int x2), (3, .int x3), (4, va_rf x4)] cells slots 0 [] := by
  unfold f_L_setLength at hf
  exact (z_aload (q := 2) hC dL_setLength_0 rfl 4 rfl (z_iconst (q := 3) (v := 0) hC dL_setLength_2 rfl ic_0 (z_aload_n (q := 4) hC dL_setLength_3 rfl 0 rfl (z_iload_n (q := 5) hC dL_setLength_4 rfl 1 rfl (z_iload_n (q := 6) hC dL_setLength_5 rfl 2 rfl (z_iload_n (q := 7) hC dL_setLength_6 rfl 3 rfl (z_callTi (q := 10) (As := [.int x1, .int x2, .int x3]) hC mi_X6_setLength ⟨q_426, q_427⟩ q_428 zct_6 (F := f_X6_setLength Z.2.2 x0 x1 x2 x3) (m_X6_setLength Z X.2.1 hC.2.2.2.2.2.2.2.2.2.1 x0 x1 x2 x3) (Nat.le_of_ble_eq_true rfl) (Nat.le_of_ble_eq_true rfl) rfl (by simp [va_rf_cat, z_ci, z_cj, z_cf, z_cd]) (by omega) (by omega) dL_setLength_7 rfl (BX := fun e h9 => if e = 3 then (K 1 h9) else (if e = 1 then (K 2 h9) else (if e = 4 then (K 3 h9) else (False)))) hf rfl (fun e h9 hf => z_ite hf (fun he hf => z_catch hC hNc htb he [] (0, 12, 15, 21) [(0, 12, 19, 13), (0, 12, 23, 27)] rfl trivial (by decide) (by decide) zcl_3 zca_3 (rfl : _ = 15) (fun q9 => (z_astoreR (q := 17) (L' := [(5, va_rf (some q9)), (0, va_rf x0), (1, .int x1), (2, .int x2), (3, .int x3), (4, va_rf x4)]) hC dL_setLength_15 rfl (Nat.le_of_ble_eq_true rfl) 4 rfl rfl rfl (z_iconst (q := 18) (v := 1) hC dL_setLength_17 rfl ic_1 (V.vx (z_iret hC hr rfl (by omega) (by omega) dL_setLength_18 hf)))))) (fun _ hf => z_ite hf (fun he hf => z_catch hC hNc htb he [(0, 12, 15, 21)] (0, 12, 19, 13) [(0, 12, 23, 27)] rfl ⟨⟨by decide, 3, zcl_3, by decide⟩, trivial⟩ (by decide) (by decide) zcl_1 zca_1 (rfl : _ = 19) (fun q9 => (z_astoreR (q := 21) (L' := [(5, va_rf (some q9)), (0, va_rf x0), (1, .int x1), (2, .int x2), (3, .int x3), (4, va_rf x4)]) hC dL_setLength_19 rfl (Nat.le_of_ble_eq_true rfl) 4 rfl rfl rfl (z_iconst (q := 22) (v := 2) hC dL_setLength_21 rfl ic_2 (V.vx (z_iret hC hr rfl (by omega) (by omega) dL_setLength_22 hf)))))) (fun _ hf => z_ite hf (fun he hf => z_catch hC hNc htb he [(0, 12, 15, 21), (0, 12, 19, 13)] (0, 12, 23, 27) [] rfl ⟨⟨by decide, 3, zcl_3, by decide⟩, ⟨⟨by decide, 1, zcl_1, by decide⟩, trivial⟩⟩ (by decide) (by decide) zcl_4 zca_4 (rfl : _ = 23) (fun q9 => (z_astoreR (q := 25) (L' := [(5, va_rf (some q9)), (0, va_rf x0), (1, .int x1), (2, .int x2), (3, .int x3), (4, va_rf x4)]) hC dL_setLength_23 rfl (Nat.le_of_ble_eq_true rfl) 4 rfl rfl rfl (z_iconst (q := 26) (v := 3) hC dL_setLength_25 rfl ic_3 (V.vx (z_iret hC hr rfl (by omega) (by omega) dL_setLength_26 hf)))))) (fun _ hf => hf.elim)))) (fun v1 h2 hf => (z_i2l (q := 11) hC dL_setLength_10 rfl (z_last (q := 12) hC dL_setLength_11 rfl hf fun h3 hf => (z_goto (tgt := 27) hC dL_setLength_12 rfl (z_iconst (q := 28) (v := 0) hC dL_setLength_27 rfl ic_0 (V.vx (z_iret hC hr rfl (by omega) (by omega) dL_setLength_28 hf))))))))))))))
theorem m_L_setLength (Z : zT) (l : Launch) (htr : l.stackTraces = false) (x0 : Option Nat) (x1 : Int32) (x2 : Int32) (x3 : Int32) (x4 : Option Nat) : zHi Z l yL_setLength cL_setLength 6 hh_L_setLength 10 3 18 180 [va_rf x0, .int x1, .int x2, .int x3, va_rf x4] (f_L_setLength Z.2.2 x0 x1 x2 x3 x4) := by
  intro h K
  refine vx_ofWH (cc := cL_setLength) (maxL := 6) (ret := some .int) (hh := hh_L_setLength) (by decide) rfl ?_
  intro p e s m args below meth c s₁ B hml hv
  obtain ⟨rfl, hw, hNc, hf⟩ := hv
  exact V.entry (X := (p, l, e, _, s, m, _, below, meth, c)) (m_L_setLength_e (z_cxH B hml htr hw) B.returns (vx_table (x := yL_setLength) B (zq_at hw.1 mi_L_setLength.1 _)) hNc (Nat.le_of_ble_eq_true rfl) (Nat.le_of_ble_eq_true rfl) hf) hw.2.2.1 (by simp [lv_args, va_rf_cat, z_ci, z_cj, z_cf, z_cd]) (by simp [lg_sl, va_rf_cat, z_ci, z_cj, z_cf, z_cd])
def f_L_length (g : Nat → Nat) (x0 : Option Nat) (x1 : Int32) (x2 : Option Nat) (h : AH) (Xf : Nat → AH → Prop) (K : Int32 → AH → Prop) : Prop :=
  cast h x0 7 (f_X6_length g x0 x1 h (fun e h9 => if e = 3 then (K 1 h9) else (False)) (fun v1 h2 => stJ h2 x2 0 (v1.toInt64) fun h3 => K 0 h3))
theorem m_L_length_e {Z : zT} {X : zX} (hC : Cx Z X RL cL_length 4 9 1 6 153) (hr : X.2.2.2.2.2.2.2.2.1.sig.returnType = some .int) (htb : (zc X).exceptionTable.toList = tableOf hh_L_length) (hNc : zNc (zs X)) {x0 : Option Nat} {x1 : Int32} {x2 : Option Nat} {h : AH} {Xf : Nat → AH → Prop} {K : Int32 → AH → Prop} {cells slots : Nat} (hc : cells + 1 ≤ 1) (hs : slots + 6 ≤ 6) (hf : f_L_length Z.2.2 x0 x1 x2 h Xf K) : V Z X (zEx Z X (zQi Z K) Xf 1 6) 4 h [(0, va_rf x0), (1, .int x1), (2, va_rf x2)] cells slots 0 [] := by
  unfold f_L_length at hf
  exact (z_aload_n (q := 1) hC dL_length_0 rfl 2 rfl (z_iconst (q := 2) (v := 0) hC dL_length_1 rfl ic_0 (z_aload_n (q := 3) hC dL_length_2 rfl 0 rfl (z_iload_n (q := 4) hC dL_length_3 rfl 1 rfl (z_callTi (q := 7) (As := [.int x1]) hC mi_X6_length ⟨q_429, q_430⟩ q_431 zct_6 (F := f_X6_length Z.2.2 x0 x1) (m_X6_length Z X.2.1 hC.2.2.2.2.2.2.2.2.2.1 x0 x1) (Nat.le_of_ble_eq_true rfl) (Nat.le_of_ble_eq_true rfl) rfl (by simp [va_rf_cat, z_ci, z_cj, z_cf, z_cd]) (by omega) (by omega) dL_length_4 rfl (BX := fun e h9 => if e = 3 then (K 1 h9) else (False)) hf rfl (fun e h9 hf => z_ite hf (fun he hf => z_catch hC hNc htb he [] (0, 9, 12, 21) [] rfl trivial (by decide) (by decide) zcl_3 zca_3 (rfl : _ = 12) (fun q9 => (z_astoreR_n (q := 13) (L' := [(3, va_rf (some q9)), (0, va_rf x0), (1, .int x1), (2, va_rf x2)]) hC dL_length_12 rfl rfl (Nat.le_of_ble_eq_true rfl) 2 rfl rfl rfl (z_iconst (q := 14) (v := 1) hC dL_length_13 rfl ic_1 (V.vx (z_iret hC hr rfl (by omega) (by omega) dL_length_14 hf)))))) (fun _ hf => hf.elim)) (fun v1 h2 hf => (z_i2l (q := 8) hC dL_length_7 rfl (z_last (q := 9) hC dL_length_8 rfl hf fun h3 hf => (z_goto (tgt := 15) hC dL_length_9 rfl (z_iconst (q := 16) (v := 0) hC dL_length_15 rfl ic_0 (V.vx (z_iret hC hr rfl (by omega) (by omega) dL_length_16 hf))))))))))))
theorem m_L_length (Z : zT) (l : Launch) (htr : l.stackTraces = false) (x0 : Option Nat) (x1 : Int32) (x2 : Option Nat) : zHi Z l yL_length cL_length 4 hh_L_length 9 1 6 153 [va_rf x0, .int x1, va_rf x2] (f_L_length Z.2.2 x0 x1 x2) := by
  intro h K
  refine vx_ofWH (cc := cL_length) (maxL := 4) (ret := some .int) (hh := hh_L_length) (by decide) rfl ?_
  intro p e s m args below meth c s₁ B hml hv
  obtain ⟨rfl, hw, hNc, hf⟩ := hv
  exact V.entry (X := (p, l, e, _, s, m, _, below, meth, c)) (m_L_length_e (z_cxH B hml htr hw) B.returns (vx_table (x := yL_length) B (zq_at hw.1 mi_L_length.1 _)) hNc (Nat.le_of_ble_eq_true rfl) (Nat.le_of_ble_eq_true rfl) hf) hw.2.2.1 (by simp [lv_args, va_rf_cat, z_ci, z_cj, z_cf, z_cd]) (by simp [lg_sl, va_rf_cat, z_ci, z_cj, z_cf, z_cd])
def f_L_spools (g : Nat → Nat) (x0 : Option Nat) (x1 : Int32) (x2 : Option Nat) (h : AH) (Xf : Nat → AH → Prop) (K : Int32 → AH → Prop) : Prop :=
  cast h x0 7 (f_X6_spools g x0 x1 h (fun e h9 => if e = 3 then (K 1 h9) else (False)) (fun v1 h2 => stJ h2 x2 0 (v1.toInt64) fun h3 => K 0 h3))
theorem m_L_spools_e {Z : zT} {X : zX} (hC : Cx Z X RL cL_spools 4 9 1 6 153) (hr : X.2.2.2.2.2.2.2.2.1.sig.returnType = some .int) (htb : (zc X).exceptionTable.toList = tableOf hh_L_spools) (hNc : zNc (zs X)) {x0 : Option Nat} {x1 : Int32} {x2 : Option Nat} {h : AH} {Xf : Nat → AH → Prop} {K : Int32 → AH → Prop} {cells slots : Nat} (hc : cells + 1 ≤ 1) (hs : slots + 6 ≤ 6) (hf : f_L_spools Z.2.2 x0 x1 x2 h Xf K) : V Z X (zEx Z X (zQi Z K) Xf 1 6) 4 h [(0, va_rf x0), (1, .int x1), (2, va_rf x2)] cells slots 0 [] := by
  unfold f_L_spools at hf
  exact (z_aload_n (q := 1) hC dL_spools_0 rfl 2 rfl (z_iconst (q := 2) (v := 0) hC dL_spools_1 rfl ic_0 (z_aload_n (q := 3) hC dL_spools_2 rfl 0 rfl (z_iload_n (q := 4) hC dL_spools_3 rfl 1 rfl (z_callTi (q := 7) (As := [.int x1]) hC mi_X6_spools ⟨q_432, q_433⟩ q_434 zct_6 (F := f_X6_spools Z.2.2 x0 x1) (m_X6_spools Z X.2.1 hC.2.2.2.2.2.2.2.2.2.1 x0 x1) (Nat.le_of_ble_eq_true rfl) (Nat.le_of_ble_eq_true rfl) rfl (by simp [va_rf_cat, z_ci, z_cj, z_cf, z_cd]) (by omega) (by omega) dL_spools_4 rfl (BX := fun e h9 => if e = 3 then (K 1 h9) else (False)) hf rfl (fun e h9 hf => z_ite hf (fun he hf => z_catch hC hNc htb he [] (0, 9, 12, 21) [] rfl trivial (by decide) (by decide) zcl_3 zca_3 (rfl : _ = 12) (fun q9 => (z_astoreR_n (q := 13) (L' := [(3, va_rf (some q9)), (0, va_rf x0), (1, .int x1), (2, va_rf x2)]) hC dL_spools_12 rfl rfl (Nat.le_of_ble_eq_true rfl) 2 rfl rfl rfl (z_iconst (q := 14) (v := 1) hC dL_spools_13 rfl ic_1 (V.vx (z_iret hC hr rfl (by omega) (by omega) dL_spools_14 hf)))))) (fun _ hf => hf.elim)) (fun v1 h2 hf => (z_i2l (q := 8) hC dL_spools_7 rfl (z_last (q := 9) hC dL_spools_8 rfl hf fun h3 hf => (z_goto (tgt := 15) hC dL_spools_9 rfl (z_iconst (q := 16) (v := 0) hC dL_spools_15 rfl ic_0 (V.vx (z_iret hC hr rfl (by omega) (by omega) dL_spools_16 hf))))))))))))
theorem m_L_spools (Z : zT) (l : Launch) (htr : l.stackTraces = false) (x0 : Option Nat) (x1 : Int32) (x2 : Option Nat) : zHi Z l yL_spools cL_spools 4 hh_L_spools 9 1 6 153 [va_rf x0, .int x1, va_rf x2] (f_L_spools Z.2.2 x0 x1 x2) := by
  intro h K
  refine vx_ofWH (cc := cL_spools) (maxL := 4) (ret := some .int) (hh := hh_L_spools) (by decide) rfl ?_
  intro p e s m args below meth c s₁ B hml hv
  obtain ⟨rfl, hw, hNc, hf⟩ := hv
  exact V.entry (X := (p, l, e, _, s, m, _, below, meth, c)) (m_L_spools_e (z_cxH B hml htr hw) B.returns (vx_table (x := yL_spools) B (zq_at hw.1 mi_L_spools.1 _)) hNc (Nat.le_of_ble_eq_true rfl) (Nat.le_of_ble_eq_true rfl) hf) hw.2.2.1 (by simp [lv_args, va_rf_cat, z_ci, z_cj, z_cf, z_cd]) (by simp [lg_sl, va_rf_cat, z_ci, z_cj, z_cf, z_cd])
def f_L_spoolOf (g : Nat → Nat) (x0 : Option Nat) (x1 : Int32) (x2 : Int32) (x3 : Option Nat) (h : AH) (Xf : Nat → AH → Prop) (K : Int32 → AH → Prop) : Prop :=
  cast h x0 7 (f_X6_spoolOf g x0 x1 x2 h (fun e h9 => if e = 3 then (K 1 h9) else (False)) (fun v1 h2 => stJ h2 x3 0 (v1.toInt64) fun h3 => K 0 h3))
theorem m_L_spoolOf_e {Z : zT} {X : zX} (hC : Cx Z X RL cL_spoolOf 5 9 2 12 155) (hr : X.2.2.2.2.2.2.2.2.1.sig.returnType = some .int) (htb : (zc X).exceptionTable.toList = tableOf hh_L_spoolOf) (hNc : zNc (zs X)) {x0 : Option Nat} {x1 : Int32} {x2 : Int32} {x3 : Option Nat} {h : AH} {Xf : Nat → AH → Prop} {K : Int32 → AH → Prop} {cells slots : Nat} (hc : cells + 2 ≤ 2) (hs : slots + 12 ≤ 12) (hf : f_L_spoolOf Z.2.2 x0 x1 x2 x3 h Xf K) : V Z X (zEx Z X (zQi Z K) Xf 2 12) 5 h [(0, va_rf x0), (1, .int x1), (2, .int x2), (3, va_rf x3)] cells slots 0 [] := by
  unfold f_L_spoolOf at hf
  exact (z_aload_n (q := 1) hC dL_spoolOf_0 rfl 3 rfl (z_iconst (q := 2) (v := 0) hC dL_spoolOf_1 rfl ic_0 (z_aload_n (q := 3) hC dL_spoolOf_2 rfl 0 rfl (z_iload_n (q := 4) hC dL_spoolOf_3 rfl 1 rfl (z_iload_n (q := 5) hC dL_spoolOf_4 rfl 2 rfl (z_callTi (q := 8) (As := [.int x1, .int x2]) hC mi_X6_spoolOf ⟨q_435, q_436⟩ q_437 zct_6 (F := f_X6_spoolOf Z.2.2 x0 x1 x2) (m_X6_spoolOf Z X.2.1 hC.2.2.2.2.2.2.2.2.2.1 x0 x1 x2) (Nat.le_of_ble_eq_true rfl) (Nat.le_of_ble_eq_true rfl) rfl (by simp [va_rf_cat, z_ci, z_cj, z_cf, z_cd]) (by omega) (by omega) dL_spoolOf_5 rfl (BX := fun e h9 => if e = 3 then (K 1 h9) else (False)) hf rfl (fun e h9 hf => z_ite hf (fun he hf => z_catch hC hNc htb he [] (0, 10, 13, 21) [] rfl trivial (by decide) (by decide) zcl_3 zca_3 (rfl : _ = 13) (fun q9 => (z_astoreR (q := 15) (L' := [(4, va_rf (some q9)), (0, va_rf x0), (1, .int x1), (2, .int x2), (3, va_rf x3)]) hC dL_spoolOf_13 rfl (Nat.le_of_ble_eq_true rfl) 3 rfl rfl rfl (z_iconst (q := 16) (v := 1) hC dL_spoolOf_15 rfl ic_1 (V.vx (z_iret hC hr rfl (by omega) (by omega) dL_spoolOf_16 hf)))))) (fun _ hf => hf.elim)) (fun v1 h2 hf => (z_i2l (q := 9) hC dL_spoolOf_8 rfl (z_last (q := 10) hC dL_spoolOf_9 rfl hf fun h3 hf => (z_goto (tgt := 17) hC dL_spoolOf_10 rfl (z_iconst (q := 18) (v := 0) hC dL_spoolOf_17 rfl ic_0 (V.vx (z_iret hC hr rfl (by omega) (by omega) dL_spoolOf_18 hf)))))))))))))
theorem m_L_spoolOf (Z : zT) (l : Launch) (htr : l.stackTraces = false) (x0 : Option Nat) (x1 : Int32) (x2 : Int32) (x3 : Option Nat) : zHi Z l yL_spoolOf cL_spoolOf 5 hh_L_spoolOf 9 2 12 155 [va_rf x0, .int x1, .int x2, va_rf x3] (f_L_spoolOf Z.2.2 x0 x1 x2 x3) := by
  intro h K
  refine vx_ofWH (cc := cL_spoolOf) (maxL := 5) (ret := some .int) (hh := hh_L_spoolOf) (by decide) rfl ?_
  intro p e s m args below meth c s₁ B hml hv
  obtain ⟨rfl, hw, hNc, hf⟩ := hv
  exact V.entry (X := (p, l, e, _, s, m, _, below, meth, c)) (m_L_spoolOf_e (z_cxH B hml htr hw) B.returns (vx_table (x := yL_spoolOf) B (zq_at hw.1 mi_L_spoolOf.1 _)) hNc (Nat.le_of_ble_eq_true rfl) (Nat.le_of_ble_eq_true rfl) hf) hw.2.2.1 (by simp [lv_args, va_rf_cat, z_ci, z_cj, z_cf, z_cd]) (by simp [lg_sl, va_rf_cat, z_ci, z_cj, z_cf, z_cd])
def f_L_isField_B16 (g : Nat → Nat) (s0 : Option Nat) (s1 : Int32) (s2 : Int64) (h : AH) (Xf : Nat → AH → Prop) (K : Int32 → AH → Prop) : Prop :=
  stJ h s0 s1 s2 fun h1 => K 0 h1
def f_L_isField (g : Nat → Nat) (x0 : Option Nat) (x1 : Int32) (x2 : Int32) (x3 : Option Nat) (h : AH) (Xf : Nat → AH → Prop) (K : Int32 → AH → Prop) : Prop :=
  cast h x0 7 (f_X6_isField g x0 x1 x2 h (fun e h9 => if e = 3 then (K 1 h9) else (False)) (fun v2 h3 => if v2 = 0 then (f_L_isField_B16 g x3 0 (0 : Int64) h3 Xf K) else (f_L_isField_B16 g x3 0 (1 : Int64) h3 Xf K)))
theorem m_L_isField_B16 {Z : zT} {X : zX} (hC : Cx Z X RL cL_isField 5 9 2 12 155) (hr : X.2.2.2.2.2.2.2.2.1.sig.returnType = some .int) (htb : (zc X).exceptionTable.toList = tableOf hh_L_isField) (hNc : zNc (zs X))  {s0 : Option Nat} {s1 : Int32} {s2 : Int64} {h : AH} {Xf : Nat → AH → Prop} {K : Int32 → AH → Prop} {cells slots : Nat} (hc : cells + 0 ≤ 2) (hs : slots + 0 ≤ 12) (hf : f_L_isField_B16 Z.2.2 s0 s1 s2 h Xf K) : V Z X (zEx Z X (zQi Z K) Xf 2 12) 5 h [] cells slots 16 [.long s2, .int s1, va_rf s0] := by
  unfold f_L_isField_B16 at hf
  exact (z_last (q := 17) hC dL_isField_16 rfl hf fun h1 hf => (z_goto (tgt := 24) hC dL_isField_17 rfl (z_iconst (q := 25) (v := 0) hC dL_isField_24 rfl ic_0 (V.vx (z_iret hC hr rfl (by omega) (by omega) dL_isField_25 hf)))))
theorem m_L_isField_e {Z : zT} {X : zX} (hC : Cx Z X RL cL_isField 5 9 2 12 155) (hr : X.2.2.2.2.2.2.2.2.1.sig.returnType = some .int) (htb : (zc X).exceptionTable.toList = tableOf hh_L_isField) (hNc : zNc (zs X)) {x0 : Option Nat} {x1 : Int32} {x2 : Int32} {x3 : Option Nat} {h : AH} {Xf : Nat → AH → Prop} {K : Int32 → AH → Prop} {cells slots : Nat} (hc : cells + 2 ≤ 2) (hs : slots + 12 ≤ 12) (hf : f_L_isField Z.2.2 x0 x1 x2 x3 h Xf K) : V Z X (zEx Z X (zQi Z K) Xf 2 12) 5 h [(0, va_rf x0), (1, .int x1), (2, .int x2), (3, va_rf x3)] cells slots 0 [] := by
  unfold f_L_isField at hf
  exact (z_aload_n (q := 1) hC dL_isField_0 rfl 3 rfl (z_iconst (q := 2) (v := 0) hC dL_isField_1 rfl ic_0 (z_aload_n (q := 3) hC dL_isField_2 rfl 0 rfl (z_iload_n (q := 4) hC dL_isField_3 rfl 1 rfl (z_iload_n (q := 5) hC dL_isField_4 rfl 2 rfl (z_callTi (q := 8) (As := [.int x1, .int x2]) hC mi_X6_isField ⟨q_438, q_439⟩ q_440 zct_6 (F := f_X6_isField Z.2.2 x0 x1 x2) (m_X6_isField Z X.2.1 hC.2.2.2.2.2.2.2.2.2.1 x0 x1 x2) (Nat.le_of_ble_eq_true rfl) (Nat.le_of_ble_eq_true rfl) rfl (by simp [va_rf_cat, z_ci, z_cj, z_cf, z_cd]) (by omega) (by omega) dL_isField_5 rfl (BX := fun e h9 => if e = 3 then (K 1 h9) else (False)) hf rfl (fun e h9 hf => z_ite hf (fun he hf => z_catch hC hNc htb he [] (0, 17, 20, 21) [] rfl trivial (by decide) (by decide) zcl_3 zca_3 (rfl : _ = 20) (fun q9 => (z_astoreR (q := 22) (L' := [(4, va_rf (some q9)), (0, va_rf x0), (1, .int x1), (2, .int x2), (3, va_rf x3)]) hC dL_isField_20 rfl (Nat.le_of_ble_eq_true rfl) 3 rfl rfl rfl (z_iconst (q := 23) (v := 1) hC dL_isField_22 rfl ic_1 (V.vx (z_iret hC hr rfl (by omega) (by omega) dL_isField_23 hf)))))) (fun _ hf => hf.elim)) (fun v2 h3 hf => (z_if_eq (tgt := 15) (q := 11) hC dL_isField_8 rfl rfl hf (fun _ hf => (z_lconst (q := 16) (v := 0) hC dL_isField_15 rfl rfl (V.sub [] rfl (m_L_isField_B16 hC hr htb hNc (by omega) (by omega) hf)))) (fun _ hf => (z_lconst (q := 12) (v := 1) hC dL_isField_11 rfl rfl (z_goto (tgt := 16) hC dL_isField_12 rfl (V.sub [] rfl (m_L_isField_B16 hC hr htb hNc (by omega) (by omega) hf)))))))))))))
theorem m_L_isField (Z : zT) (l : Launch) (htr : l.stackTraces = false) (x0 : Option Nat) (x1 : Int32) (x2 : Int32) (x3 : Option Nat) : zHi Z l yL_isField cL_isField 5 hh_L_isField 9 2 12 155 [va_rf x0, .int x1, .int x2, va_rf x3] (f_L_isField Z.2.2 x0 x1 x2 x3) := by
  intro h K
  refine vx_ofWH (cc := cL_isField) (maxL := 5) (ret := some .int) (hh := hh_L_isField) (by decide) rfl ?_
  intro p e s m args below meth c s₁ B hml hv
  obtain ⟨rfl, hw, hNc, hf⟩ := hv
  exact V.entry (X := (p, l, e, _, s, m, _, below, meth, c)) (m_L_isField_e (z_cxH B hml htr hw) B.returns (vx_table (x := yL_isField) B (zq_at hw.1 mi_L_isField.1 _)) hNc (Nat.le_of_ble_eq_true rfl) (Nat.le_of_ble_eq_true rfl) hf) hw.2.2.1 (by simp [lv_args, va_rf_cat, z_ci, z_cj, z_cf, z_cd]) (by simp [lg_sl, va_rf_cat, z_ci, z_cj, z_cf, z_cd])
def f_L_addHeat (g : Nat → Nat) (x0 : Option Nat) (x1 : Int32) (x2 : Int32) (x3 : Int32) (x4 : Option Nat) (h : AH) (Xf : Nat → AH → Prop) (K : Int32 → AH → Prop) : Prop :=
  cast h x0 7 (f_X6_addHeat g x0 x1 x2 x3 h (fun e h9 => if e = 1 then (K 1 h9) else (if e = 2 then (K 2 h9) else (False))) (fun v1 h2 => stJ h2 x4 0 (v1.toInt64) fun h3 => K 0 h3))
theorem m_L_addHeat_e {Z : zT} {X : zX} (hC : Cx Z X RL cL_addHeat 6 7 1 6 114) (hr : X.2.2.2.2.2.2.2.2.1.sig.returnType = some .int) (htb : (zc X).exceptionTable.toList = tableOf hh_L_addHeat) (hNc : zNc (zs X)) {x0 : Option Nat} {x1 : Int32} {x2 : Int32} {x3 : Int32} {x4 : Option Nat} {h : AH} {Xf : Nat → AH → Prop} {K : Int32 → AH → Prop} {cells slots : Nat} (hc : cells + 1 ≤ 1) (hs : slots + 6 ≤ 6) (hf : f_L_addHeat Z.2.2 x0 x1 x2 x3 x4 h Xf K) : V Z X (zEx Z X (zQi Z K) Xf 1 6) 6 h [(0, va_rf x0), (1, .int x1), (2, .int x2), (3, .int x3), (4, va_rf x4)] cells slots 0 [] := by
  unfold f_L_addHeat at hf
  exact (z_aload (q := 2) hC dL_addHeat_0 rfl 4 rfl (z_iconst (q := 3) (v := 0) hC dL_addHeat_2 rfl ic_0 (z_aload_n (q := 4) hC dL_addHeat_3 rfl 0 rfl (z_iload_n (q := 5) hC dL_addHeat_4 rfl 1 rfl (z_iload_n (q := 6) hC dL_addHeat_5 rfl 2 rfl (z_iload_n (q := 7) hC dL_addHeat_6 rfl 3 rfl (z_callTi (q := 10) (As := [.int x1, .int x2, .int x3]) hC mi_X6_addHeat ⟨q_441, q_442⟩ q_443 zct_6 (F := f_X6_addHeat Z.2.2 x0 x1 x2 x3) (m_X6_addHeat Z X.2.1 hC.2.2.2.2.2.2.2.2.2.1 x0 x1 x2 x3) (Nat.le_of_ble_eq_true rfl) (Nat.le_of_ble_eq_true rfl) rfl (by simp [va_rf_cat, z_ci, z_cj, z_cf, z_cd]) (by omega) (by omega) dL_addHeat_7 rfl (BX := fun e h9 => if e = 1 then (K 1 h9) else (if e = 2 then (K 2 h9) else (False))) hf rfl (fun e h9 hf => z_ite hf (fun he hf => z_catch hC hNc htb he [] (0, 12, 15, 13) [(0, 12, 19, 15)] rfl trivial (by decide) (by decide) zcl_1 zca_1 (rfl : _ = 15) (fun q9 => (z_astoreR (q := 17) (L' := [(5, va_rf (some q9)), (0, va_rf x0), (1, .int x1), (2, .int x2), (3, .int x3), (4, va_rf x4)]) hC dL_addHeat_15 rfl (Nat.le_of_ble_eq_true rfl) 4 rfl rfl rfl (z_iconst (q := 18) (v := 1) hC dL_addHeat_17 rfl ic_1 (V.vx (z_iret hC hr rfl (by omega) (by omega) dL_addHeat_18 hf)))))) (fun _ hf => z_ite hf (fun he hf => z_catch hC hNc htb he [(0, 12, 15, 13)] (0, 12, 19, 15) [] rfl ⟨⟨by decide, 1, zcl_1, by decide⟩, trivial⟩ (by decide) (by decide) zcl_2 zca_2 (rfl : _ = 19) (fun q9 => (z_astoreR (q := 21) (L' := [(5, va_rf (some q9)), (0, va_rf x0), (1, .int x1), (2, .int x2), (3, .int x3), (4, va_rf x4)]) hC dL_addHeat_19 rfl (Nat.le_of_ble_eq_true rfl) 4 rfl rfl rfl (z_iconst (q := 22) (v := 2) hC dL_addHeat_21 rfl ic_2 (V.vx (z_iret hC hr rfl (by omega) (by omega) dL_addHeat_22 hf)))))) (fun _ hf => hf.elim))) (fun v1 h2 hf => (z_i2l (q := 11) hC dL_addHeat_10 rfl (z_last (q := 12) hC dL_addHeat_11 rfl hf fun h3 hf => (z_goto (tgt := 23) hC dL_addHeat_12 rfl (z_iconst (q := 24) (v := 0) hC dL_addHeat_23 rfl ic_0 (V.vx (z_iret hC hr rfl (by omega) (by omega) dL_addHeat_24 hf))))))))))))))
theorem m_L_addHeat (Z : zT) (l : Launch) (htr : l.stackTraces = false) (x0 : Option Nat) (x1 : Int32) (x2 : Int32) (x3 : Int32) (x4 : Option Nat) : zHi Z l yL_addHeat cL_addHeat 6 hh_L_addHeat 7 1 6 114 [va_rf x0, .int x1, .int x2, .int x3, va_rf x4] (f_L_addHeat Z.2.2 x0 x1 x2 x3 x4) := by
  intro h K
  refine vx_ofWH (cc := cL_addHeat) (maxL := 6) (ret := some .int) (hh := hh_L_addHeat) (by decide) rfl ?_
  intro p e s m args below meth c s₁ B hml hv
  obtain ⟨rfl, hw, hNc, hf⟩ := hv
  exact V.entry (X := (p, l, e, _, s, m, _, below, meth, c)) (m_L_addHeat_e (z_cxH B hml htr hw) B.returns (vx_table (x := yL_addHeat) B (zq_at hw.1 mi_L_addHeat.1 _)) hNc (Nat.le_of_ble_eq_true rfl) (Nat.le_of_ble_eq_true rfl) hf) hw.2.2.1 (by simp [lv_args, va_rf_cat, z_ci, z_cj, z_cf, z_cd]) (by simp [lg_sl, va_rf_cat, z_ci, z_cj, z_cf, z_cd])
def f_L_left (g : Nat → Nat) (x0 : Option Nat) (x1 : Int32) (x2 : Option Nat) (h : AH) (Xf : Nat → AH → Prop) (K : Int32 → AH → Prop) : Prop :=
  cast h x0 7 (f_X6_left g x0 x1 h (fun e h9 => if e = 3 then (K 1 h9) else (False)) (fun v1 h2 => stJ h2 x2 0 (v1.toInt64) fun h3 => K 0 h3))
theorem m_L_left_e {Z : zT} {X : zX} (hC : Cx Z X RL cL_left 4 8 1 6 132) (hr : X.2.2.2.2.2.2.2.2.1.sig.returnType = some .int) (htb : (zc X).exceptionTable.toList = tableOf hh_L_left) (hNc : zNc (zs X)) {x0 : Option Nat} {x1 : Int32} {x2 : Option Nat} {h : AH} {Xf : Nat → AH → Prop} {K : Int32 → AH → Prop} {cells slots : Nat} (hc : cells + 1 ≤ 1) (hs : slots + 6 ≤ 6) (hf : f_L_left Z.2.2 x0 x1 x2 h Xf K) : V Z X (zEx Z X (zQi Z K) Xf 1 6) 4 h [(0, va_rf x0), (1, .int x1), (2, va_rf x2)] cells slots 0 [] := by
  unfold f_L_left at hf
  exact (z_aload_n (q := 1) hC dL_left_0 rfl 2 rfl (z_iconst (q := 2) (v := 0) hC dL_left_1 rfl ic_0 (z_aload_n (q := 3) hC dL_left_2 rfl 0 rfl (z_iload_n (q := 4) hC dL_left_3 rfl 1 rfl (z_callTi (q := 7) (As := [.int x1]) hC mi_X6_left ⟨q_444, q_445⟩ q_446 zct_6 (F := f_X6_left Z.2.2 x0 x1) (m_X6_left Z X.2.1 hC.2.2.2.2.2.2.2.2.2.1 x0 x1) (Nat.le_of_ble_eq_true rfl) (Nat.le_of_ble_eq_true rfl) rfl (by simp [va_rf_cat, z_ci, z_cj, z_cf, z_cd]) (by omega) (by omega) dL_left_4 rfl (BX := fun e h9 => if e = 3 then (K 1 h9) else (False)) hf rfl (fun e h9 hf => z_ite hf (fun he hf => z_catch hC hNc htb he [] (0, 9, 12, 21) [] rfl trivial (by decide) (by decide) zcl_3 zca_3 (rfl : _ = 12) (fun q9 => (z_astoreR_n (q := 13) (L' := [(3, va_rf (some q9)), (0, va_rf x0), (1, .int x1), (2, va_rf x2)]) hC dL_left_12 rfl rfl (Nat.le_of_ble_eq_true rfl) 2 rfl rfl rfl (z_iconst (q := 14) (v := 1) hC dL_left_13 rfl ic_1 (V.vx (z_iret hC hr rfl (by omega) (by omega) dL_left_14 hf)))))) (fun _ hf => hf.elim)) (fun v1 h2 hf => (z_i2l (q := 8) hC dL_left_7 rfl (z_last (q := 9) hC dL_left_8 rfl hf fun h3 hf => (z_goto (tgt := 15) hC dL_left_9 rfl (z_iconst (q := 16) (v := 0) hC dL_left_15 rfl ic_0 (V.vx (z_iret hC hr rfl (by omega) (by omega) dL_left_16 hf))))))))))))
theorem m_L_left (Z : zT) (l : Launch) (htr : l.stackTraces = false) (x0 : Option Nat) (x1 : Int32) (x2 : Option Nat) : zHi Z l yL_left cL_left 4 hh_L_left 8 1 6 132 [va_rf x0, .int x1, va_rf x2] (f_L_left Z.2.2 x0 x1 x2) := by
  intro h K
  refine vx_ofWH (cc := cL_left) (maxL := 4) (ret := some .int) (hh := hh_L_left) (by decide) rfl ?_
  intro p e s m args below meth c s₁ B hml hv
  obtain ⟨rfl, hw, hNc, hf⟩ := hv
  exact V.entry (X := (p, l, e, _, s, m, _, below, meth, c)) (m_L_left_e (z_cxH B hml htr hw) B.returns (vx_table (x := yL_left) B (zq_at hw.1 mi_L_left.1 _)) hNc (Nat.le_of_ble_eq_true rfl) (Nat.le_of_ble_eq_true rfl) hf) hw.2.2.1 (by simp [lv_args, va_rf_cat, z_ci, z_cj, z_cf, z_cd]) (by simp [lg_sl, va_rf_cat, z_ci, z_cj, z_cf, z_cd])
def f_L_losePaper_B15 (g : Nat → Nat) (s0 : Option Nat) (s1 : Int32) (s2 : Int64) (h : AH) (Xf : Nat → AH → Prop) (K : Int32 → AH → Prop) : Prop :=
  stJ h s0 s1 s2 fun h1 => K 0 h1
def f_L_losePaper (g : Nat → Nat) (x0 : Option Nat) (x1 : Int32) (x2 : Option Nat) (h : AH) (Xf : Nat → AH → Prop) (K : Int32 → AH → Prop) : Prop :=
  cast h x0 7 (f_X6_losePaper g x0 x1 h (fun e h9 => if e = 3 then (K 1 h9) else (False)) (fun v2 h3 => if v2 = 0 then (f_L_losePaper_B15 g x2 0 (0 : Int64) h3 Xf K) else (f_L_losePaper_B15 g x2 0 (1 : Int64) h3 Xf K)))
theorem m_L_losePaper_B15 {Z : zT} {X : zX} (hC : Cx Z X RL cL_losePaper 4 8 1 6 132) (hr : X.2.2.2.2.2.2.2.2.1.sig.returnType = some .int) (htb : (zc X).exceptionTable.toList = tableOf hh_L_losePaper) (hNc : zNc (zs X))  {s0 : Option Nat} {s1 : Int32} {s2 : Int64} {h : AH} {Xf : Nat → AH → Prop} {K : Int32 → AH → Prop} {cells slots : Nat} (hc : cells + 0 ≤ 1) (hs : slots + 0 ≤ 6) (hf : f_L_losePaper_B15 Z.2.2 s0 s1 s2 h Xf K) : V Z X (zEx Z X (zQi Z K) Xf 1 6) 4 h [] cells slots 15 [.long s2, .int s1, va_rf s0] := by
  unfold f_L_losePaper_B15 at hf
  exact (z_last (q := 16) hC dL_losePaper_15 rfl hf fun h1 hf => (z_goto (tgt := 22) hC dL_losePaper_16 rfl (z_iconst (q := 23) (v := 0) hC dL_losePaper_22 rfl ic_0 (V.vx (z_iret hC hr rfl (by omega) (by omega) dL_losePaper_23 hf)))))
theorem m_L_losePaper_e {Z : zT} {X : zX} (hC : Cx Z X RL cL_losePaper 4 8 1 6 132) (hr : X.2.2.2.2.2.2.2.2.1.sig.returnType = some .int) (htb : (zc X).exceptionTable.toList = tableOf hh_L_losePaper) (hNc : zNc (zs X)) {x0 : Option Nat} {x1 : Int32} {x2 : Option Nat} {h : AH} {Xf : Nat → AH → Prop} {K : Int32 → AH → Prop} {cells slots : Nat} (hc : cells + 1 ≤ 1) (hs : slots + 6 ≤ 6) (hf : f_L_losePaper Z.2.2 x0 x1 x2 h Xf K) : V Z X (zEx Z X (zQi Z K) Xf 1 6) 4 h [(0, va_rf x0), (1, .int x1), (2, va_rf x2)] cells slots 0 [] := by
  unfold f_L_losePaper at hf
  exact (z_aload_n (q := 1) hC dL_losePaper_0 rfl 2 rfl (z_iconst (q := 2) (v := 0) hC dL_losePaper_1 rfl ic_0 (z_aload_n (q := 3) hC dL_losePaper_2 rfl 0 rfl (z_iload_n (q := 4) hC dL_losePaper_3 rfl 1 rfl (z_callTi (q := 7) (As := [.int x1]) hC mi_X6_losePaper ⟨q_447, q_448⟩ q_449 zct_6 (F := f_X6_losePaper Z.2.2 x0 x1) (m_X6_losePaper Z X.2.1 hC.2.2.2.2.2.2.2.2.2.1 x0 x1) (Nat.le_of_ble_eq_true rfl) (Nat.le_of_ble_eq_true rfl) rfl (by simp [va_rf_cat, z_ci, z_cj, z_cf, z_cd]) (by omega) (by omega) dL_losePaper_4 rfl (BX := fun e h9 => if e = 3 then (K 1 h9) else (False)) hf rfl (fun e h9 hf => z_ite hf (fun he hf => z_catch hC hNc htb he [] (0, 16, 19, 21) [] rfl trivial (by decide) (by decide) zcl_3 zca_3 (rfl : _ = 19) (fun q9 => (z_astoreR_n (q := 20) (L' := [(3, va_rf (some q9)), (0, va_rf x0), (1, .int x1), (2, va_rf x2)]) hC dL_losePaper_19 rfl rfl (Nat.le_of_ble_eq_true rfl) 2 rfl rfl rfl (z_iconst (q := 21) (v := 1) hC dL_losePaper_20 rfl ic_1 (V.vx (z_iret hC hr rfl (by omega) (by omega) dL_losePaper_21 hf)))))) (fun _ hf => hf.elim)) (fun v2 h3 hf => (z_if_eq (tgt := 14) (q := 10) hC dL_losePaper_7 rfl rfl hf (fun _ hf => (z_lconst (q := 15) (v := 0) hC dL_losePaper_14 rfl rfl (V.sub [] rfl (m_L_losePaper_B15 hC hr htb hNc (by omega) (by omega) hf)))) (fun _ hf => (z_lconst (q := 11) (v := 1) hC dL_losePaper_10 rfl rfl (z_goto (tgt := 15) hC dL_losePaper_11 rfl (V.sub [] rfl (m_L_losePaper_B15 hC hr htb hNc (by omega) (by omega) hf))))))))))))
theorem m_L_losePaper (Z : zT) (l : Launch) (htr : l.stackTraces = false) (x0 : Option Nat) (x1 : Int32) (x2 : Option Nat) : zHi Z l yL_losePaper cL_losePaper 4 hh_L_losePaper 8 1 6 132 [va_rf x0, .int x1, va_rf x2] (f_L_losePaper Z.2.2 x0 x1 x2) := by
  intro h K
  refine vx_ofWH (cc := cL_losePaper) (maxL := 4) (ret := some .int) (hh := hh_L_losePaper) (by decide) rfl ?_
  intro p e s m args below meth c s₁ B hml hv
  obtain ⟨rfl, hw, hNc, hf⟩ := hv
  exact V.entry (X := (p, l, e, _, s, m, _, below, meth, c)) (m_L_losePaper_e (z_cxH B hml htr hw) B.returns (vx_table (x := yL_losePaper) B (zq_at hw.1 mi_L_losePaper.1 _)) hNc (Nat.le_of_ble_eq_true rfl) (Nat.le_of_ble_eq_true rfl) hf) hw.2.2.1 (by simp [lv_args, va_rf_cat, z_ci, z_cj, z_cf, z_cd]) (by simp [lg_sl, va_rf_cat, z_ci, z_cj, z_cf, z_cd])
def f_L_test_B15 (g : Nat → Nat) (s0 : Option Nat) (s1 : Int32) (s2 : Int64) (h : AH) (Xf : Nat → AH → Prop) (K : Int32 → AH → Prop) : Prop :=
  stJ h s0 s1 s2 fun h1 => K 0 h1
def f_L_test (g : Nat → Nat) (x0 : Option Nat) (x1 : Int32) (x2 : Option Nat) (h : AH) (Xf : Nat → AH → Prop) (K : Int32 → AH → Prop) : Prop :=
  cast h x0 7 (f_X6_test g x0 x1 h (fun e h9 => if e = 3 then (K 1 h9) else (False)) (fun v2 h3 => if v2 = 0 then (f_L_test_B15 g x2 0 (0 : Int64) h3 Xf K) else (f_L_test_B15 g x2 0 (1 : Int64) h3 Xf K)))
theorem m_L_test_B15 {Z : zT} {X : zX} (hC : Cx Z X RL cL_test 4 8 1 6 132) (hr : X.2.2.2.2.2.2.2.2.1.sig.returnType = some .int) (htb : (zc X).exceptionTable.toList = tableOf hh_L_test) (hNc : zNc (zs X))  {s0 : Option Nat} {s1 : Int32} {s2 : Int64} {h : AH} {Xf : Nat → AH → Prop} {K : Int32 → AH → Prop} {cells slots : Nat} (hc : cells + 0 ≤ 1) (hs : slots + 0 ≤ 6) (hf : f_L_test_B15 Z.2.2 s0 s1 s2 h Xf K) : V Z X (zEx Z X (zQi Z K) Xf 1 6) 4 h [] cells slots 15 [.long s2, .int s1, va_rf s0] := by
  unfold f_L_test_B15 at hf
  exact (z_last (q := 16) hC dL_test_15 rfl hf fun h1 hf => (z_goto (tgt := 22) hC dL_test_16 rfl (z_iconst (q := 23) (v := 0) hC dL_test_22 rfl ic_0 (V.vx (z_iret hC hr rfl (by omega) (by omega) dL_test_23 hf)))))
theorem m_L_test_e {Z : zT} {X : zX} (hC : Cx Z X RL cL_test 4 8 1 6 132) (hr : X.2.2.2.2.2.2.2.2.1.sig.returnType = some .int) (htb : (zc X).exceptionTable.toList = tableOf hh_L_test) (hNc : zNc (zs X)) {x0 : Option Nat} {x1 : Int32} {x2 : Option Nat} {h : AH} {Xf : Nat → AH → Prop} {K : Int32 → AH → Prop} {cells slots : Nat} (hc : cells + 1 ≤ 1) (hs : slots + 6 ≤ 6) (hf : f_L_test Z.2.2 x0 x1 x2 h Xf K) : V Z X (zEx Z X (zQi Z K) Xf 1 6) 4 h [(0, va_rf x0), (1, .int x1), (2, va_rf x2)] cells slots 0 [] := by
  unfold f_L_test at hf
  exact (z_aload_n (q := 1) hC dL_test_0 rfl 2 rfl (z_iconst (q := 2) (v := 0) hC dL_test_1 rfl ic_0 (z_aload_n (q := 3) hC dL_test_2 rfl 0 rfl (z_iload_n (q := 4) hC dL_test_3 rfl 1 rfl (z_callTi (q := 7) (As := [.int x1]) hC mi_X6_test ⟨q_450, q_451⟩ q_452 zct_6 (F := f_X6_test Z.2.2 x0 x1) (m_X6_test Z X.2.1 hC.2.2.2.2.2.2.2.2.2.1 x0 x1) (Nat.le_of_ble_eq_true rfl) (Nat.le_of_ble_eq_true rfl) rfl (by simp [va_rf_cat, z_ci, z_cj, z_cf, z_cd]) (by omega) (by omega) dL_test_4 rfl (BX := fun e h9 => if e = 3 then (K 1 h9) else (False)) hf rfl (fun e h9 hf => z_ite hf (fun he hf => z_catch hC hNc htb he [] (0, 16, 19, 21) [] rfl trivial (by decide) (by decide) zcl_3 zca_3 (rfl : _ = 19) (fun q9 => (z_astoreR_n (q := 20) (L' := [(3, va_rf (some q9)), (0, va_rf x0), (1, .int x1), (2, va_rf x2)]) hC dL_test_19 rfl rfl (Nat.le_of_ble_eq_true rfl) 2 rfl rfl rfl (z_iconst (q := 21) (v := 1) hC dL_test_20 rfl ic_1 (V.vx (z_iret hC hr rfl (by omega) (by omega) dL_test_21 hf)))))) (fun _ hf => hf.elim)) (fun v2 h3 hf => (z_if_eq (tgt := 14) (q := 10) hC dL_test_7 rfl rfl hf (fun _ hf => (z_lconst (q := 15) (v := 0) hC dL_test_14 rfl rfl (V.sub [] rfl (m_L_test_B15 hC hr htb hNc (by omega) (by omega) hf)))) (fun _ hf => (z_lconst (q := 11) (v := 1) hC dL_test_10 rfl rfl (z_goto (tgt := 15) hC dL_test_11 rfl (V.sub [] rfl (m_L_test_B15 hC hr htb hNc (by omega) (by omega) hf))))))))))))
theorem m_L_test (Z : zT) (l : Launch) (htr : l.stackTraces = false) (x0 : Option Nat) (x1 : Int32) (x2 : Option Nat) : zHi Z l yL_test cL_test 4 hh_L_test 8 1 6 132 [va_rf x0, .int x1, va_rf x2] (f_L_test Z.2.2 x0 x1 x2) := by
  intro h K
  refine vx_ofWH (cc := cL_test) (maxL := 4) (ret := some .int) (hh := hh_L_test) (by decide) rfl ?_
  intro p e s m args below meth c s₁ B hml hv
  obtain ⟨rfl, hw, hNc, hf⟩ := hv
  exact V.entry (X := (p, l, e, _, s, m, _, below, meth, c)) (m_L_test_e (z_cxH B hml htr hw) B.returns (vx_table (x := yL_test) B (zq_at hw.1 mi_L_test.1 _)) hNc (Nat.le_of_ble_eq_true rfl) (Nat.le_of_ble_eq_true rfl) hf) hw.2.2.1 (by simp [lv_args, va_rf_cat, z_ci, z_cj, z_cf, z_cd]) (by simp [lg_sl, va_rf_cat, z_ci, z_cj, z_cf, z_cd])
def f_L_give (g : Nat → Nat) (x0 : Option Nat) (x1 : Int32) (x2 : Int32) (x3 : Int32) (x4 : Option Nat) (h : AH) (Xf : Nat → AH → Prop) (K : Int32 → AH → Prop) : Prop :=
  cast h x0 7 (f_X6_give g x0 x1 x2 x3 h (fun e h9 => if e = 3 then (K 1 h9) else (if e = 4 then (K 2 h9) else (False))) (fun v1 h2 => stJ h2 x4 0 (v1.toInt64) fun h3 => K 0 h3))
theorem m_L_give_e {Z : zT} {X : zX} (hC : Cx Z X RL cL_give 6 10 4 24 180) (hr : X.2.2.2.2.2.2.2.2.1.sig.returnType = some .int) (htb : (zc X).exceptionTable.toList = tableOf hh_L_give) (hNc : zNc (zs X)) {x0 : Option Nat} {x1 : Int32} {x2 : Int32} {x3 : Int32} {x4 : Option Nat} {h : AH} {Xf : Nat → AH → Prop} {K : Int32 → AH → Prop} {cells slots : Nat} (hc : cells + 4 ≤ 4) (hs : slots + 24 ≤ 24) (hf : f_L_give Z.2.2 x0 x1 x2 x3 x4 h Xf K) : V Z X (zEx Z X (zQi Z K) Xf 4 24) 6 h [(0, va_rf x0), (1, .int x1), (2, .int x2), (3, .int x3), (4, va_rf x4)] cells slots 0 [] := by
  unfold f_L_give at hf
  exact (z_aload (q := 2) hC dL_give_0 rfl 4 rfl (z_iconst (q := 3) (v := 0) hC dL_give_2 rfl ic_0 (z_aload_n (q := 4) hC dL_give_3 rfl 0 rfl (z_iload_n (q := 5) hC dL_give_4 rfl 1 rfl (z_iload_n (q := 6) hC dL_give_5 rfl 2 rfl (z_iload_n (q := 7) hC dL_give_6 rfl 3 rfl (z_callTi (q := 10) (As := [.int x1, .int x2, .int x3]) hC mi_X6_give ⟨q_453, q_454⟩ q_455 zct_6 (F := f_X6_give Z.2.2 x0 x1 x2 x3) (m_X6_give Z X.2.1 hC.2.2.2.2.2.2.2.2.2.1 x0 x1 x2 x3) (Nat.le_of_ble_eq_true rfl) (Nat.le_of_ble_eq_true rfl) rfl (by simp [va_rf_cat, z_ci, z_cj, z_cf, z_cd]) (by omega) (by omega) dL_give_7 rfl (BX := fun e h9 => if e = 3 then (K 1 h9) else (if e = 4 then (K 2 h9) else (False))) hf rfl (fun e h9 hf => z_ite hf (fun he hf => z_catch hC hNc htb he [] (0, 12, 15, 21) [(0, 12, 19, 27)] rfl trivial (by decide) (by decide) zcl_3 zca_3 (rfl : _ = 15) (fun q9 => (z_astoreR (q := 17) (L' := [(5, va_rf (some q9)), (0, va_rf x0), (1, .int x1), (2, .int x2), (3, .int x3), (4, va_rf x4)]) hC dL_give_15 rfl (Nat.le_of_ble_eq_true rfl) 4 rfl rfl rfl (z_iconst (q := 18) (v := 1) hC dL_give_17 rfl ic_1 (V.vx (z_iret hC hr rfl (by omega) (by omega) dL_give_18 hf)))))) (fun _ hf => z_ite hf (fun he hf => z_catch hC hNc htb he [(0, 12, 15, 21)] (0, 12, 19, 27) [] rfl ⟨⟨by decide, 3, zcl_3, by decide⟩, trivial⟩ (by decide) (by decide) zcl_4 zca_4 (rfl : _ = 19) (fun q9 => (z_astoreR (q := 21) (L' := [(5, va_rf (some q9)), (0, va_rf x0), (1, .int x1), (2, .int x2), (3, .int x3), (4, va_rf x4)]) hC dL_give_19 rfl (Nat.le_of_ble_eq_true rfl) 4 rfl rfl rfl (z_iconst (q := 22) (v := 2) hC dL_give_21 rfl ic_2 (V.vx (z_iret hC hr rfl (by omega) (by omega) dL_give_22 hf)))))) (fun _ hf => hf.elim))) (fun v1 h2 hf => (z_i2l (q := 11) hC dL_give_10 rfl (z_last (q := 12) hC dL_give_11 rfl hf fun h3 hf => (z_goto (tgt := 23) hC dL_give_12 rfl (z_iconst (q := 24) (v := 0) hC dL_give_23 rfl ic_0 (V.vx (z_iret hC hr rfl (by omega) (by omega) dL_give_24 hf))))))))))))))
theorem m_L_give (Z : zT) (l : Launch) (htr : l.stackTraces = false) (x0 : Option Nat) (x1 : Int32) (x2 : Int32) (x3 : Int32) (x4 : Option Nat) : zHi Z l yL_give cL_give 6 hh_L_give 10 4 24 180 [va_rf x0, .int x1, .int x2, .int x3, va_rf x4] (f_L_give Z.2.2 x0 x1 x2 x3 x4) := by
  intro h K
  refine vx_ofWH (cc := cL_give) (maxL := 6) (ret := some .int) (hh := hh_L_give) (by decide) rfl ?_
  intro p e s m args below meth c s₁ B hml hv
  obtain ⟨rfl, hw, hNc, hf⟩ := hv
  exact V.entry (X := (p, l, e, _, s, m, _, below, meth, c)) (m_L_give_e (z_cxH B hml htr hw) B.returns (vx_table (x := yL_give) B (zq_at hw.1 mi_L_give.1 _)) hNc (Nat.le_of_ble_eq_true rfl) (Nat.le_of_ble_eq_true rfl) hf) hw.2.2.1 (by simp [lv_args, va_rf_cat, z_ci, z_cj, z_cf, z_cd]) (by simp [lg_sl, va_rf_cat, z_ci, z_cj, z_cf, z_cd])
def f_L_heatOf (g : Nat → Nat) (x0 : Option Nat) (x1 : Int32) (x2 : Int32) (x3 : Option Nat) (h : AH) (Xf : Nat → AH → Prop) (K : Int32 → AH → Prop) : Prop :=
  cast h x0 7 (f_X6_heatOf g x0 x1 x2 h (fun e h9 => if e = 3 then (K 1 h9) else (if e = 5 then (K 2 h9) else (False))) (fun v1 h2 => stJ h2 x3 0 (v1.toInt64) fun h3 => K 0 h3))
theorem m_L_heatOf_e {Z : zT} {X : zX} (hC : Cx Z X RL cL_heatOf 5 10 3 18 178) (hr : X.2.2.2.2.2.2.2.2.1.sig.returnType = some .int) (htb : (zc X).exceptionTable.toList = tableOf hh_L_heatOf) (hNc : zNc (zs X)) {x0 : Option Nat} {x1 : Int32} {x2 : Int32} {x3 : Option Nat} {h : AH} {Xf : Nat → AH → Prop} {K : Int32 → AH → Prop} {cells slots : Nat} (hc : cells + 3 ≤ 3) (hs : slots + 18 ≤ 18) (hf : f_L_heatOf Z.2.2 x0 x1 x2 x3 h Xf K) : V Z X (zEx Z X (zQi Z K) Xf 3 18) 5 h [(0, va_rf x0), (1, .int x1), (2, .int x2), (3, va_rf x3)] cells slots 0 [] := by
  unfold f_L_heatOf at hf
  exact (z_aload_n (q := 1) hC dL_heatOf_0 rfl 3 rfl (z_iconst (q := 2) (v := 0) hC dL_heatOf_1 rfl ic_0 (z_aload_n (q := 3) hC dL_heatOf_2 rfl 0 rfl (z_iload_n (q := 4) hC dL_heatOf_3 rfl 1 rfl (z_iload_n (q := 5) hC dL_heatOf_4 rfl 2 rfl (z_callTi (q := 8) (As := [.int x1, .int x2]) hC mi_X6_heatOf ⟨q_456, q_457⟩ q_458 zct_6 (F := f_X6_heatOf Z.2.2 x0 x1 x2) (m_X6_heatOf Z X.2.1 hC.2.2.2.2.2.2.2.2.2.1 x0 x1 x2) (Nat.le_of_ble_eq_true rfl) (Nat.le_of_ble_eq_true rfl) rfl (by simp [va_rf_cat, z_ci, z_cj, z_cf, z_cd]) (by omega) (by omega) dL_heatOf_5 rfl (BX := fun e h9 => if e = 3 then (K 1 h9) else (if e = 5 then (K 2 h9) else (False))) hf rfl (fun e h9 hf => z_ite hf (fun he hf => z_catch hC hNc htb he [] (0, 10, 13, 21) [(0, 10, 17, 63)] rfl trivial (by decide) (by decide) zcl_3 zca_3 (rfl : _ = 13) (fun q9 => (z_astoreR (q := 15) (L' := [(4, va_rf (some q9)), (0, va_rf x0), (1, .int x1), (2, .int x2), (3, va_rf x3)]) hC dL_heatOf_13 rfl (Nat.le_of_ble_eq_true rfl) 3 rfl rfl rfl (z_iconst (q := 16) (v := 1) hC dL_heatOf_15 rfl ic_1 (V.vx (z_iret hC hr rfl (by omega) (by omega) dL_heatOf_16 hf)))))) (fun _ hf => z_ite hf (fun he hf => z_catch hC hNc htb he [(0, 10, 13, 21)] (0, 10, 17, 63) [] rfl ⟨⟨by decide, 3, zcl_3, by decide⟩, trivial⟩ (by decide) (by decide) zcl_5 zca_5 (rfl : _ = 17) (fun q9 => (z_astoreR (q := 19) (L' := [(4, va_rf (some q9)), (0, va_rf x0), (1, .int x1), (2, .int x2), (3, va_rf x3)]) hC dL_heatOf_17 rfl (Nat.le_of_ble_eq_true rfl) 3 rfl rfl rfl (z_iconst (q := 20) (v := 2) hC dL_heatOf_19 rfl ic_2 (V.vx (z_iret hC hr rfl (by omega) (by omega) dL_heatOf_20 hf)))))) (fun _ hf => hf.elim))) (fun v1 h2 hf => (z_i2l (q := 9) hC dL_heatOf_8 rfl (z_last (q := 10) hC dL_heatOf_9 rfl hf fun h3 hf => (z_goto (tgt := 21) hC dL_heatOf_10 rfl (z_iconst (q := 22) (v := 0) hC dL_heatOf_21 rfl ic_0 (V.vx (z_iret hC hr rfl (by omega) (by omega) dL_heatOf_22 hf)))))))))))))
theorem m_L_heatOf (Z : zT) (l : Launch) (htr : l.stackTraces = false) (x0 : Option Nat) (x1 : Int32) (x2 : Int32) (x3 : Option Nat) : zHi Z l yL_heatOf cL_heatOf 5 hh_L_heatOf 10 3 18 178 [va_rf x0, .int x1, .int x2, va_rf x3] (f_L_heatOf Z.2.2 x0 x1 x2 x3) := by
  intro h K
  refine vx_ofWH (cc := cL_heatOf) (maxL := 5) (ret := some .int) (hh := hh_L_heatOf) (by decide) rfl ?_
  intro p e s m args below meth c s₁ B hml hv
  obtain ⟨rfl, hw, hNc, hf⟩ := hv
  exact V.entry (X := (p, l, e, _, s, m, _, below, meth, c)) (m_L_heatOf_e (z_cxH B hml htr hw) B.returns (vx_table (x := yL_heatOf) B (zq_at hw.1 mi_L_heatOf.1 _)) hNc (Nat.le_of_ble_eq_true rfl) (Nat.le_of_ble_eq_true rfl) hf) hw.2.2.1 (by simp [lv_args, va_rf_cat, z_ci, z_cj, z_cf, z_cd]) (by simp [lg_sl, va_rf_cat, z_ci, z_cj, z_cf, z_cd])
def f_L_bestHeat (g : Nat → Nat) (x0 : Option Nat) (x1 : Int32) (x2 : Int32) (x3 : Int32) (x4 : Option Nat) (h : AH) (Xf : Nat → AH → Prop) (K : Int32 → AH → Prop) : Prop :=
  cast h x0 7 (f_X6_bestHeat g x0 x1 x2 x3 h (fun e h9 => if e = 3 then (K 1 h9) else (if e = 1 then (K 2 h9) else (if e = 5 then (K 3 h9) else (False)))) (fun v1 h2 => stJ h2 x4 0 (v1.toInt64) fun h3 => K 0 h3))
theorem m_L_bestHeat_e {Z : zT} {X : zX} (hC : Cx Z X RL cL_bestHeat 6 10 3 18 182) (hr : X.2.2.2.2.2.2.2.2.1.sig.returnType = some .int) (htb : (zc X).exceptionTable.toList = tableOf hh_L_bestHeat) (hNc : zNc (zs X)) {x0 : Option Nat} {x1 : Int32} {x2 : Int32} {x3 : Int32} {x4 : Option Nat} {h : AH} {Xf : Nat → AH → Prop} {K : Int32 → AH → Prop} {cells slots : Nat} (hc : cells + 3 ≤ 3) (hs : slots + 18 ≤ 18) (hf : f_L_bestHeat Z.2.2 x0 x1 x2 x3 x4 h Xf K) : V Z X (zEx Z X (zQi Z K) Xf 3 18) 6 h [(0, va_rf x0), (1, .int x1), (2, .int x2), (3, .int x3), (4, va_rf x4)] cells slots 0 [] := by
  unfold f_L_bestHeat at hf
  exact (z_aload (q := 2) hC dL_bestHeat_0 rfl 4 rfl (z_iconst (q := 3) (v := 0) hC dL_bestHeat_2 rfl ic_0 (z_aload_n (q := 4) hC dL_bestHeat_3 rfl 0 rfl (z_iload_n (q := 5) hC dL_bestHeat_4 rfl 1 rfl (z_iload_n (q := 6) hC dL_bestHeat_5 rfl 2 rfl (z_iload_n (q := 7) hC dL_bestHeat_6 rfl 3 rfl (z_callTi (q := 10) (As := [.int x1, .int x2, .int x3]) hC mi_X6_bestHeat ⟨q_459, q_460⟩ q_461 zct_6 (F := f_X6_bestHeat Z.2.2 x0 x1 x2 x3) (m_X6_bestHeat Z X.2.1 hC.2.2.2.2.2.2.2.2.2.1 x0 x1 x2 x3) (Nat.le_of_ble_eq_true rfl) (Nat.le_of_ble_eq_true rfl) rfl (by simp [va_rf_cat, z_ci, z_cj, z_cf, z_cd]) (by omega) (by omega) dL_bestHeat_7 rfl (BX := fun e h9 => if e = 3 then (K 1 h9) else (if e = 1 then (K 2 h9) else (if e = 5 then (K 3 h9) else (False)))) hf rfl (fun e h9 hf => z_ite hf (fun he hf => z_catch hC hNc htb he [] (0, 12, 15, 21) [(0, 12, 19, 13), (0, 12, 23, 63)] rfl trivial (by decide) (by decide) zcl_3 zca_3 (rfl : _ = 15) (fun q9 => (z_astoreR (q := 17) (L' := [(5, va_rf (some q9)), (0, va_rf x0), (1, .int x1), (2, .int x2), (3, .int x3), (4, va_rf x4)]) hC dL_bestHeat_15 rfl (Nat.le_of_ble_eq_true rfl) 4 rfl rfl rfl (z_iconst (q := 18) (v := 1) hC dL_bestHeat_17 rfl ic_1 (V.vx (z_iret hC hr rfl (by omega) (by omega) dL_bestHeat_18 hf)))))) (fun _ hf => z_ite hf (fun he hf => z_catch hC hNc htb he [(0, 12, 15, 21)] (0, 12, 19, 13) [(0, 12, 23, 63)] rfl ⟨⟨by decide, 3, zcl_3, by decide⟩, trivial⟩ (by decide) (by decide) zcl_1 zca_1 (rfl : _ = 19) (fun q9 => (z_astoreR (q := 21) (L' := [(5, va_rf (some q9)), (0, va_rf x0), (1, .int x1), (2, .int x2), (3, .int x3), (4, va_rf x4)]) hC dL_bestHeat_19 rfl (Nat.le_of_ble_eq_true rfl) 4 rfl rfl rfl (z_iconst (q := 22) (v := 2) hC dL_bestHeat_21 rfl ic_2 (V.vx (z_iret hC hr rfl (by omega) (by omega) dL_bestHeat_22 hf)))))) (fun _ hf => z_ite hf (fun he hf => z_catch hC hNc htb he [(0, 12, 15, 21), (0, 12, 19, 13)] (0, 12, 23, 63) [] rfl ⟨⟨by decide, 3, zcl_3, by decide⟩, ⟨⟨by decide, 1, zcl_1, by decide⟩, trivial⟩⟩ (by decide) (by decide) zcl_5 zca_5 (rfl : _ = 23) (fun q9 => (z_astoreR (q := 25) (L' := [(5, va_rf (some q9)), (0, va_rf x0), (1, .int x1), (2, .int x2), (3, .int x3), (4, va_rf x4)]) hC dL_bestHeat_23 rfl (Nat.le_of_ble_eq_true rfl) 4 rfl rfl rfl (z_iconst (q := 26) (v := 3) hC dL_bestHeat_25 rfl ic_3 (V.vx (z_iret hC hr rfl (by omega) (by omega) dL_bestHeat_26 hf)))))) (fun _ hf => hf.elim)))) (fun v1 h2 hf => (z_i2l (q := 11) hC dL_bestHeat_10 rfl (z_last (q := 12) hC dL_bestHeat_11 rfl hf fun h3 hf => (z_goto (tgt := 27) hC dL_bestHeat_12 rfl (z_iconst (q := 28) (v := 0) hC dL_bestHeat_27 rfl ic_0 (V.vx (z_iret hC hr rfl (by omega) (by omega) dL_bestHeat_28 hf))))))))))))))
theorem m_L_bestHeat (Z : zT) (l : Launch) (htr : l.stackTraces = false) (x0 : Option Nat) (x1 : Int32) (x2 : Int32) (x3 : Int32) (x4 : Option Nat) : zHi Z l yL_bestHeat cL_bestHeat 6 hh_L_bestHeat 10 3 18 182 [va_rf x0, .int x1, .int x2, .int x3, va_rf x4] (f_L_bestHeat Z.2.2 x0 x1 x2 x3 x4) := by
  intro h K
  refine vx_ofWH (cc := cL_bestHeat) (maxL := 6) (ret := some .int) (hh := hh_L_bestHeat) (by decide) rfl ?_
  intro p e s m args below meth c s₁ B hml hv
  obtain ⟨rfl, hw, hNc, hf⟩ := hv
  exact V.entry (X := (p, l, e, _, s, m, _, below, meth, c)) (m_L_bestHeat_e (z_cxH B hml htr hw) B.returns (vx_table (x := yL_bestHeat) B (zq_at hw.1 mi_L_bestHeat.1 _)) hNc (Nat.le_of_ble_eq_true rfl) (Nat.le_of_ble_eq_true rfl) hf) hw.2.2.1 (by simp [lv_args, va_rf_cat, z_ci, z_cj, z_cf, z_cd]) (by simp [lg_sl, va_rf_cat, z_ci, z_cj, z_cf, z_cd])
def f_L_addWelder (g : Nat → Nat) (x0 : Option Nat) (x1 : Option Nat) (h : AH) (Xf : Nat → AH → Prop) (K : Int32 → AH → Prop) : Prop :=
  cast h x0 7 (f_X6_addWelder g x0 h (fun e h9 => if e = 2 then (K 1 h9) else (False)) (fun v1 h2 => stJ h2 x1 0 (v1.toInt64) fun h3 => K 0 h3))
theorem m_L_addWelder_e {Z : zT} {X : zX} (hC : Cx Z X RL cL_addWelder 3 7 1 6 110) (hr : X.2.2.2.2.2.2.2.2.1.sig.returnType = some .int) (htb : (zc X).exceptionTable.toList = tableOf hh_L_addWelder) (hNc : zNc (zs X)) {x0 : Option Nat} {x1 : Option Nat} {h : AH} {Xf : Nat → AH → Prop} {K : Int32 → AH → Prop} {cells slots : Nat} (hc : cells + 1 ≤ 1) (hs : slots + 6 ≤ 6) (hf : f_L_addWelder Z.2.2 x0 x1 h Xf K) : V Z X (zEx Z X (zQi Z K) Xf 1 6) 3 h [(0, va_rf x0), (1, va_rf x1)] cells slots 0 [] := by
  unfold f_L_addWelder at hf
  exact (z_aload_n (q := 1) hC dL_addWelder_0 rfl 1 rfl (z_iconst (q := 2) (v := 0) hC dL_addWelder_1 rfl ic_0 (z_aload_n (q := 3) hC dL_addWelder_2 rfl 0 rfl (z_callTi (q := 6) (As := []) hC mi_X6_addWelder ⟨q_462, q_463⟩ q_464 zct_6 (F := f_X6_addWelder Z.2.2 x0) (m_X6_addWelder Z X.2.1 hC.2.2.2.2.2.2.2.2.2.1 x0) (Nat.le_of_ble_eq_true rfl) (Nat.le_of_ble_eq_true rfl) rfl (by simp [va_rf_cat, z_ci, z_cj, z_cf, z_cd]) (by omega) (by omega) dL_addWelder_3 rfl (BX := fun e h9 => if e = 2 then (K 1 h9) else (False)) hf rfl (fun e h9 hf => z_ite hf (fun he hf => z_catch hC hNc htb he [] (0, 8, 11, 15) [] rfl trivial (by decide) (by decide) zcl_2 zca_2 (rfl : _ = 11) (fun q9 => (z_astoreR_n (q := 12) (L' := [(2, va_rf (some q9)), (0, va_rf x0), (1, va_rf x1)]) hC dL_addWelder_11 rfl rfl (Nat.le_of_ble_eq_true rfl) 1 rfl rfl rfl (z_iconst (q := 13) (v := 1) hC dL_addWelder_12 rfl ic_1 (V.vx (z_iret hC hr rfl (by omega) (by omega) dL_addWelder_13 hf)))))) (fun _ hf => hf.elim)) (fun v1 h2 hf => (z_i2l (q := 7) hC dL_addWelder_6 rfl (z_last (q := 8) hC dL_addWelder_7 rfl hf fun h3 hf => (z_goto (tgt := 14) hC dL_addWelder_8 rfl (z_iconst (q := 15) (v := 0) hC dL_addWelder_14 rfl ic_0 (V.vx (z_iret hC hr rfl (by omega) (by omega) dL_addWelder_15 hf)))))))))))
theorem m_L_addWelder (Z : zT) (l : Launch) (htr : l.stackTraces = false) (x0 : Option Nat) (x1 : Option Nat) : zHi Z l yL_addWelder cL_addWelder 3 hh_L_addWelder 7 1 6 110 [va_rf x0, va_rf x1] (f_L_addWelder Z.2.2 x0 x1) := by
  intro h K
  refine vx_ofWH (cc := cL_addWelder) (maxL := 3) (ret := some .int) (hh := hh_L_addWelder) (by decide) rfl ?_
  intro p e s m args below meth c s₁ B hml hv
  obtain ⟨rfl, hw, hNc, hf⟩ := hv
  exact V.entry (X := (p, l, e, _, s, m, _, below, meth, c)) (m_L_addWelder_e (z_cxH B hml htr hw) B.returns (vx_table (x := yL_addWelder) B (zq_at hw.1 mi_L_addWelder.1 _)) hNc (Nat.le_of_ble_eq_true rfl) (Nat.le_of_ble_eq_true rfl) hf) hw.2.2.1 (by simp [lv_args, va_rf_cat, z_ci, z_cj, z_cf, z_cd]) (by simp [lg_sl, va_rf_cat, z_ci, z_cj, z_cf, z_cd])
def f_L_ticket (g : Nat → Nat) (x0 : Option Nat) (x1 : Int32) (x2 : Int32) (x3 : Int32) (x4 : Option Nat) (h : AH) (Xf : Nat → AH → Prop) (K : Int32 → AH → Prop) : Prop :=
  cast h x0 7 (f_X6_ticket g x0 x1 x2 x3 h (fun e h9 => if e = 3 then (K 1 h9) else (if e = 1 then (K 2 h9) else (False))) (fun v1 h2 => stJ h2 x4 0 (v1.toInt64) fun h3 => K 0 h3))
theorem m_L_ticket_e {Z : zT} {X : zX} (hC : Cx Z X RL cL_ticket 6 8 2 12 136) (hr : X.2.2.2.2.2.2.2.2.1.sig.returnType = some .int) (htb : (zc X).exceptionTable.toList = tableOf hh_L_ticket) (hNc : zNc (zs X)) {x0 : Option Nat} {x1 : Int32} {x2 : Int32} {x3 : Int32} {x4 : Option Nat} {h : AH} {Xf : Nat → AH → Prop} {K : Int32 → AH → Prop} {cells slots : Nat} (hc : cells + 2 ≤ 2) (hs : slots + 12 ≤ 12) (hf : f_L_ticket Z.2.2 x0 x1 x2 x3 x4 h Xf K) : V Z X (zEx Z X (zQi Z K) Xf 2 12) 6 h [(0, va_rf x0), (1, .int x1), (2, .int x2), (3, .int x3), (4, va_rf x4)] cells slots 0 [] := by
  unfold f_L_ticket at hf
  exact (z_aload (q := 2) hC dL_ticket_0 rfl 4 rfl (z_iconst (q := 3) (v := 0) hC dL_ticket_2 rfl ic_0 (z_aload_n (q := 4) hC dL_ticket_3 rfl 0 rfl (z_iload_n (q := 5) hC dL_ticket_4 rfl 1 rfl (z_iload_n (q := 6) hC dL_ticket_5 rfl 2 rfl (z_iload_n (q := 7) hC dL_ticket_6 rfl 3 rfl (z_callTi (q := 10) (As := [.int x1, .int x2, .int x3]) hC mi_X6_ticket ⟨q_465, q_466⟩ q_467 zct_6 (F := f_X6_ticket Z.2.2 x0 x1 x2 x3) (m_X6_ticket Z X.2.1 hC.2.2.2.2.2.2.2.2.2.1 x0 x1 x2 x3) (Nat.le_of_ble_eq_true rfl) (Nat.le_of_ble_eq_true rfl) rfl (by simp [va_rf_cat, z_ci, z_cj, z_cf, z_cd]) (by omega) (by omega) dL_ticket_7 rfl (BX := fun e h9 => if e = 3 then (K 1 h9) else (if e = 1 then (K 2 h9) else (False))) hf rfl (fun e h9 hf => z_ite hf (fun he hf => z_catch hC hNc htb he [] (0, 12, 15, 21) [(0, 12, 19, 13)] rfl trivial (by decide) (by decide) zcl_3 zca_3 (rfl : _ = 15) (fun q9 => (z_astoreR (q := 17) (L' := [(5, va_rf (some q9)), (0, va_rf x0), (1, .int x1), (2, .int x2), (3, .int x3), (4, va_rf x4)]) hC dL_ticket_15 rfl (Nat.le_of_ble_eq_true rfl) 4 rfl rfl rfl (z_iconst (q := 18) (v := 1) hC dL_ticket_17 rfl ic_1 (V.vx (z_iret hC hr rfl (by omega) (by omega) dL_ticket_18 hf)))))) (fun _ hf => z_ite hf (fun he hf => z_catch hC hNc htb he [(0, 12, 15, 21)] (0, 12, 19, 13) [] rfl ⟨⟨by decide, 3, zcl_3, by decide⟩, trivial⟩ (by decide) (by decide) zcl_1 zca_1 (rfl : _ = 19) (fun q9 => (z_astoreR (q := 21) (L' := [(5, va_rf (some q9)), (0, va_rf x0), (1, .int x1), (2, .int x2), (3, .int x3), (4, va_rf x4)]) hC dL_ticket_19 rfl (Nat.le_of_ble_eq_true rfl) 4 rfl rfl rfl (z_iconst (q := 22) (v := 2) hC dL_ticket_21 rfl ic_2 (V.vx (z_iret hC hr rfl (by omega) (by omega) dL_ticket_22 hf)))))) (fun _ hf => hf.elim))) (fun v1 h2 hf => (z_i2l (q := 11) hC dL_ticket_10 rfl (z_last (q := 12) hC dL_ticket_11 rfl hf fun h3 hf => (z_goto (tgt := 23) hC dL_ticket_12 rfl (z_iconst (q := 24) (v := 0) hC dL_ticket_23 rfl ic_0 (V.vx (z_iret hC hr rfl (by omega) (by omega) dL_ticket_24 hf))))))))))))))
theorem m_L_ticket (Z : zT) (l : Launch) (htr : l.stackTraces = false) (x0 : Option Nat) (x1 : Int32) (x2 : Int32) (x3 : Int32) (x4 : Option Nat) : zHi Z l yL_ticket cL_ticket 6 hh_L_ticket 8 2 12 136 [va_rf x0, .int x1, .int x2, .int x3, va_rf x4] (f_L_ticket Z.2.2 x0 x1 x2 x3 x4) := by
  intro h K
  refine vx_ofWH (cc := cL_ticket) (maxL := 6) (ret := some .int) (hh := hh_L_ticket) (by decide) rfl ?_
  intro p e s m args below meth c s₁ B hml hv
  obtain ⟨rfl, hw, hNc, hf⟩ := hv
  exact V.entry (X := (p, l, e, _, s, m, _, below, meth, c)) (m_L_ticket_e (z_cxH B hml htr hw) B.returns (vx_table (x := yL_ticket) B (zq_at hw.1 mi_L_ticket.1 _)) hNc (Nat.le_of_ble_eq_true rfl) (Nat.le_of_ble_eq_true rfl) hf) hw.2.2.1 (by simp [lv_args, va_rf_cat, z_ci, z_cj, z_cf, z_cd]) (by simp [lg_sl, va_rf_cat, z_ci, z_cj, z_cf, z_cd])
def f_L_mayWeld_B18 (g : Nat → Nat) (s0 : Option Nat) (s1 : Int32) (s2 : Int64) (h : AH) (Xf : Nat → AH → Prop) (K : Int32 → AH → Prop) : Prop :=
  stJ h s0 s1 s2 fun h1 => K 0 h1
def f_L_mayWeld (g : Nat → Nat) (x0 : Option Nat) (x1 : Int32) (x2 : Int32) (x3 : Int32) (x4 : Option Nat) (h : AH) (Xf : Nat → AH → Prop) (K : Int32 → AH → Prop) : Prop :=
  cast h x0 7 (f_X6_mayWeld g x0 x1 x2 x3 h (fun e h9 => if e = 3 then (K 1 h9) else (False)) (fun v2 h3 => if v2 = 0 then (f_L_mayWeld_B18 g x4 0 (0 : Int64) h3 Xf K) else (f_L_mayWeld_B18 g x4 0 (1 : Int64) h3 Xf K)))
theorem m_L_mayWeld_B18 {Z : zT} {X : zX} (hC : Cx Z X RL cL_mayWeld 6 9 3 18 156) (hr : X.2.2.2.2.2.2.2.2.1.sig.returnType = some .int) (htb : (zc X).exceptionTable.toList = tableOf hh_L_mayWeld) (hNc : zNc (zs X))  {s0 : Option Nat} {s1 : Int32} {s2 : Int64} {h : AH} {Xf : Nat → AH → Prop} {K : Int32 → AH → Prop} {cells slots : Nat} (hc : cells + 0 ≤ 3) (hs : slots + 0 ≤ 18) (hf : f_L_mayWeld_B18 Z.2.2 s0 s1 s2 h Xf K) : V Z X (zEx Z X (zQi Z K) Xf 3 18) 6 h [] cells slots 18 [.long s2, .int s1, va_rf s0] := by
  unfold f_L_mayWeld_B18 at hf
  exact (z_last (q := 19) hC dL_mayWeld_18 rfl hf fun h1 hf => (z_goto (tgt := 26) hC dL_mayWeld_19 rfl (z_iconst (q := 27) (v := 0) hC dL_mayWeld_26 rfl ic_0 (V.vx (z_iret hC hr rfl (by omega) (by omega) dL_mayWeld_27 hf)))))
theorem m_L_mayWeld_e {Z : zT} {X : zX} (hC : Cx Z X RL cL_mayWeld 6 9 3 18 156) (hr : X.2.2.2.2.2.2.2.2.1.sig.returnType = some .int) (htb : (zc X).exceptionTable.toList = tableOf hh_L_mayWeld) (hNc : zNc (zs X)) {x0 : Option Nat} {x1 : Int32} {x2 : Int32} {x3 : Int32} {x4 : Option Nat} {h : AH} {Xf : Nat → AH → Prop} {K : Int32 → AH → Prop} {cells slots : Nat} (hc : cells + 3 ≤ 3) (hs : slots + 18 ≤ 18) (hf : f_L_mayWeld Z.2.2 x0 x1 x2 x3 x4 h Xf K) : V Z X (zEx Z X (zQi Z K) Xf 3 18) 6 h [(0, va_rf x0), (1, .int x1), (2, .int x2), (3, .int x3), (4, va_rf x4)] cells slots 0 [] := by
  unfold f_L_mayWeld at hf
  exact (z_aload (q := 2) hC dL_mayWeld_0 rfl 4 rfl (z_iconst (q := 3) (v := 0) hC dL_mayWeld_2 rfl ic_0 (z_aload_n (q := 4) hC dL_mayWeld_3 rfl 0 rfl (z_iload_n (q := 5) hC dL_mayWeld_4 rfl 1 rfl (z_iload_n (q := 6) hC dL_mayWeld_5 rfl 2 rfl (z_iload_n (q := 7) hC dL_mayWeld_6 rfl 3 rfl (z_callTi (q := 10) (As := [.int x1, .int x2, .int x3]) hC mi_X6_mayWeld ⟨q_468, q_469⟩ q_470 zct_6 (F := f_X6_mayWeld Z.2.2 x0 x1 x2 x3) (m_X6_mayWeld Z X.2.1 hC.2.2.2.2.2.2.2.2.2.1 x0 x1 x2 x3) (Nat.le_of_ble_eq_true rfl) (Nat.le_of_ble_eq_true rfl) rfl (by simp [va_rf_cat, z_ci, z_cj, z_cf, z_cd]) (by omega) (by omega) dL_mayWeld_7 rfl (BX := fun e h9 => if e = 3 then (K 1 h9) else (False)) hf rfl (fun e h9 hf => z_ite hf (fun he hf => z_catch hC hNc htb he [] (0, 19, 22, 21) [] rfl trivial (by decide) (by decide) zcl_3 zca_3 (rfl : _ = 22) (fun q9 => (z_astoreR (q := 24) (L' := [(5, va_rf (some q9)), (0, va_rf x0), (1, .int x1), (2, .int x2), (3, .int x3), (4, va_rf x4)]) hC dL_mayWeld_22 rfl (Nat.le_of_ble_eq_true rfl) 4 rfl rfl rfl (z_iconst (q := 25) (v := 1) hC dL_mayWeld_24 rfl ic_1 (V.vx (z_iret hC hr rfl (by omega) (by omega) dL_mayWeld_25 hf)))))) (fun _ hf => hf.elim)) (fun v2 h3 hf => (z_if_eq (tgt := 17) (q := 13) hC dL_mayWeld_10 rfl rfl hf (fun _ hf => (z_lconst (q := 18) (v := 0) hC dL_mayWeld_17 rfl rfl (V.sub [] rfl (m_L_mayWeld_B18 hC hr htb hNc (by omega) (by omega) hf)))) (fun _ hf => (z_lconst (q := 14) (v := 1) hC dL_mayWeld_13 rfl rfl (z_goto (tgt := 18) hC dL_mayWeld_14 rfl (V.sub [] rfl (m_L_mayWeld_B18 hC hr htb hNc (by omega) (by omega) hf))))))))))))))
theorem m_L_mayWeld (Z : zT) (l : Launch) (htr : l.stackTraces = false) (x0 : Option Nat) (x1 : Int32) (x2 : Int32) (x3 : Int32) (x4 : Option Nat) : zHi Z l yL_mayWeld cL_mayWeld 6 hh_L_mayWeld 9 3 18 156 [va_rf x0, .int x1, .int x2, .int x3, va_rf x4] (f_L_mayWeld Z.2.2 x0 x1 x2 x3 x4) := by
  intro h K
  refine vx_ofWH (cc := cL_mayWeld) (maxL := 6) (ret := some .int) (hh := hh_L_mayWeld) (by decide) rfl ?_
  intro p e s m args below meth c s₁ B hml hv
  obtain ⟨rfl, hw, hNc, hf⟩ := hv
  exact V.entry (X := (p, l, e, _, s, m, _, below, meth, c)) (m_L_mayWeld_e (z_cxH B hml htr hw) B.returns (vx_table (x := yL_mayWeld) B (zq_at hw.1 mi_L_mayWeld.1 _)) hNc (Nat.le_of_ble_eq_true rfl) (Nat.le_of_ble_eq_true rfl) hf) hw.2.2.1 (by simp [lv_args, va_rf_cat, z_ci, z_cj, z_cf, z_cd]) (by simp [lg_sl, va_rf_cat, z_ci, z_cj, z_cf, z_cd])
def f_L_weld (g : Nat → Nat) (x0 : Option Nat) (x1 : Int32) (x2 : Int32) (x3 : Int32) (x4 : Option Nat) (h : AH) (Xf : Nat → AH → Prop) (K : Int32 → AH → Prop) : Prop :=
  cast h x0 7 (f_X6_weld g x0 x1 x2 x3 h (fun e h9 => if e = 3 then (K 1 h9) else (if e = 4 then (K 2 h9) else (False))) (fun v1 h2 => stJ h2 x4 0 (v1.toInt64) fun h3 => K 0 h3))
theorem m_L_weld_e {Z : zT} {X : zX} (hC : Cx Z X RL cL_weld 6 10 4 24 180) (hr : X.2.2.2.2.2.2.2.2.1.sig.returnType = some .int) (htb : (zc X).exceptionTable.toList = tableOf hh_L_weld) (hNc : zNc (zs X)) {x0 : Option Nat} {x1 : Int32} {x2 : Int32} {x3 : Int32} {x4 : Option Nat} {h : AH} {Xf : Nat → AH → Prop} {K : Int32 → AH → Prop} {cells slots : Nat} (hc : cells + 4 ≤ 4) (hs : slots + 24 ≤ 24) (hf : f_L_weld Z.2.2 x0 x1 x2 x3 x4 h Xf K) : V Z X (zEx Z X (zQi Z K) Xf 4 24) 6 h [(0, va_rf x0), (1, .int x1), (2, .int x2), (3, .int x3), (4, va_rf x4)] cells slots 0 [] := by
  unfold f_L_weld at hf
  exact (z_aload (q := 2) hC dL_weld_0 rfl 4 rfl (z_iconst (q := 3) (v := 0) hC dL_weld_2 rfl ic_0 (z_aload_n (q := 4) hC dL_weld_3 rfl 0 rfl (z_iload_n (q := 5) hC dL_weld_4 rfl 1 rfl (z_iload_n (q := 6) hC dL_weld_5 rfl 2 rfl (z_iload_n (q := 7) hC dL_weld_6 rfl 3 rfl (z_callTi (q := 10) (As := [.int x1, .int x2, .int x3]) hC mi_X6_weld ⟨q_471, q_472⟩ q_473 zct_6 (F := f_X6_weld Z.2.2 x0 x1 x2 x3) (m_X6_weld Z X.2.1 hC.2.2.2.2.2.2.2.2.2.1 x0 x1 x2 x3) (Nat.le_of_ble_eq_true rfl) (Nat.le_of_ble_eq_true rfl) rfl (by simp [va_rf_cat, z_ci, z_cj, z_cf, z_cd]) (by omega) (by omega) dL_weld_7 rfl (BX := fun e h9 => if e = 3 then (K 1 h9) else (if e = 4 then (K 2 h9) else (False))) hf rfl (fun e h9 hf => z_ite hf (fun he hf => z_catch hC hNc htb he [] (0, 12, 15, 21) [(0, 12, 19, 27)] rfl trivial (by decide) (by decide) zcl_3 zca_3 (rfl : _ = 15) (fun q9 => (z_astoreR (q := 17) (L' := [(5, va_rf (some q9)), (0, va_rf x0), (1, .int x1), (2, .int x2), (3, .int x3), (4, va_rf x4)]) hC dL_weld_15 rfl (Nat.le_of_ble_eq_true rfl) 4 rfl rfl rfl (z_iconst (q := 18) (v := 1) hC dL_weld_17 rfl ic_1 (V.vx (z_iret hC hr rfl (by omega) (by omega) dL_weld_18 hf)))))) (fun _ hf => z_ite hf (fun he hf => z_catch hC hNc htb he [(0, 12, 15, 21)] (0, 12, 19, 27) [] rfl ⟨⟨by decide, 3, zcl_3, by decide⟩, trivial⟩ (by decide) (by decide) zcl_4 zca_4 (rfl : _ = 19) (fun q9 => (z_astoreR (q := 21) (L' := [(5, va_rf (some q9)), (0, va_rf x0), (1, .int x1), (2, .int x2), (3, .int x3), (4, va_rf x4)]) hC dL_weld_19 rfl (Nat.le_of_ble_eq_true rfl) 4 rfl rfl rfl (z_iconst (q := 22) (v := 2) hC dL_weld_21 rfl ic_2 (V.vx (z_iret hC hr rfl (by omega) (by omega) dL_weld_22 hf)))))) (fun _ hf => hf.elim))) (fun v1 h2 hf => (z_i2l (q := 11) hC dL_weld_10 rfl (z_last (q := 12) hC dL_weld_11 rfl hf fun h3 hf => (z_goto (tgt := 23) hC dL_weld_12 rfl (z_iconst (q := 24) (v := 0) hC dL_weld_23 rfl ic_0 (V.vx (z_iret hC hr rfl (by omega) (by omega) dL_weld_24 hf))))))))))))))
theorem m_L_weld (Z : zT) (l : Launch) (htr : l.stackTraces = false) (x0 : Option Nat) (x1 : Int32) (x2 : Int32) (x3 : Int32) (x4 : Option Nat) : zHi Z l yL_weld cL_weld 6 hh_L_weld 10 4 24 180 [va_rf x0, .int x1, .int x2, .int x3, va_rf x4] (f_L_weld Z.2.2 x0 x1 x2 x3 x4) := by
  intro h K
  refine vx_ofWH (cc := cL_weld) (maxL := 6) (ret := some .int) (hh := hh_L_weld) (by decide) rfl ?_
  intro p e s m args below meth c s₁ B hml hv
  obtain ⟨rfl, hw, hNc, hf⟩ := hv
  exact V.entry (X := (p, l, e, _, s, m, _, below, meth, c)) (m_L_weld_e (z_cxH B hml htr hw) B.returns (vx_table (x := yL_weld) B (zq_at hw.1 mi_L_weld.1 _)) hNc (Nat.le_of_ble_eq_true rfl) (Nat.le_of_ble_eq_true rfl) hf) hw.2.2.1 (by simp [lv_args, va_rf_cat, z_ci, z_cj, z_cf, z_cd]) (by simp [lg_sl, va_rf_cat, z_ci, z_cj, z_cf, z_cd])
def f_L_look (g : Nat → Nat) (x0 : Option Nat) (x1 : Int32) (x2 : Int32) (x3 : Int32) (x4 : Option Nat) (h : AH) (Xf : Nat → AH → Prop) (K : Int32 → AH → Prop) : Prop :=
  cast h x0 7 (f_X6_look g x0 x1 x2 x3 h (fun e h9 => if e = 3 then (K 1 h9) else (if e = 4 then (K 2 h9) else (False))) (fun v1 h2 => stJ h2 x4 0 (v1.toInt64) fun h3 => K 0 h3))
theorem m_L_look_e {Z : zT} {X : zX} (hC : Cx Z X RL cL_look 6 10 3 18 179) (hr : X.2.2.2.2.2.2.2.2.1.sig.returnType = some .int) (htb : (zc X).exceptionTable.toList = tableOf hh_L_look) (hNc : zNc (zs X)) {x0 : Option Nat} {x1 : Int32} {x2 : Int32} {x3 : Int32} {x4 : Option Nat} {h : AH} {Xf : Nat → AH → Prop} {K : Int32 → AH → Prop} {cells slots : Nat} (hc : cells + 3 ≤ 3) (hs : slots + 18 ≤ 18) (hf : f_L_look Z.2.2 x0 x1 x2 x3 x4 h Xf K) : V Z X (zEx Z X (zQi Z K) Xf 3 18) 6 h [(0, va_rf x0), (1, .int x1), (2, .int x2), (3, .int x3), (4, va_rf x4)] cells slots 0 [] := by
  unfold f_L_look at hf
  exact (z_aload (q := 2) hC dL_look_0 rfl 4 rfl (z_iconst (q := 3) (v := 0) hC dL_look_2 rfl ic_0 (z_aload_n (q := 4) hC dL_look_3 rfl 0 rfl (z_iload_n (q := 5) hC dL_look_4 rfl 1 rfl (z_iload_n (q := 6) hC dL_look_5 rfl 2 rfl (z_iload_n (q := 7) hC dL_look_6 rfl 3 rfl (z_callTi (q := 10) (As := [.int x1, .int x2, .int x3]) hC mi_X6_look ⟨q_474, q_475⟩ q_476 zct_6 (F := f_X6_look Z.2.2 x0 x1 x2 x3) (m_X6_look Z X.2.1 hC.2.2.2.2.2.2.2.2.2.1 x0 x1 x2 x3) (Nat.le_of_ble_eq_true rfl) (Nat.le_of_ble_eq_true rfl) rfl (by simp [va_rf_cat, z_ci, z_cj, z_cf, z_cd]) (by omega) (by omega) dL_look_7 rfl (BX := fun e h9 => if e = 3 then (K 1 h9) else (if e = 4 then (K 2 h9) else (False))) hf rfl (fun e h9 hf => z_ite hf (fun he hf => z_catch hC hNc htb he [] (0, 12, 15, 21) [(0, 12, 19, 27)] rfl trivial (by decide) (by decide) zcl_3 zca_3 (rfl : _ = 15) (fun q9 => (z_astoreR (q := 17) (L' := [(5, va_rf (some q9)), (0, va_rf x0), (1, .int x1), (2, .int x2), (3, .int x3), (4, va_rf x4)]) hC dL_look_15 rfl (Nat.le_of_ble_eq_true rfl) 4 rfl rfl rfl (z_iconst (q := 18) (v := 1) hC dL_look_17 rfl ic_1 (V.vx (z_iret hC hr rfl (by omega) (by omega) dL_look_18 hf)))))) (fun _ hf => z_ite hf (fun he hf => z_catch hC hNc htb he [(0, 12, 15, 21)] (0, 12, 19, 27) [] rfl ⟨⟨by decide, 3, zcl_3, by decide⟩, trivial⟩ (by decide) (by decide) zcl_4 zca_4 (rfl : _ = 19) (fun q9 => (z_astoreR (q := 21) (L' := [(5, va_rf (some q9)), (0, va_rf x0), (1, .int x1), (2, .int x2), (3, .int x3), (4, va_rf x4)]) hC dL_look_19 rfl (Nat.le_of_ble_eq_true rfl) 4 rfl rfl rfl (z_iconst (q := 22) (v := 2) hC dL_look_21 rfl ic_2 (V.vx (z_iret hC hr rfl (by omega) (by omega) dL_look_22 hf)))))) (fun _ hf => hf.elim))) (fun v1 h2 hf => (z_i2l (q := 11) hC dL_look_10 rfl (z_last (q := 12) hC dL_look_11 rfl hf fun h3 hf => (z_goto (tgt := 23) hC dL_look_12 rfl (z_iconst (q := 24) (v := 0) hC dL_look_23 rfl ic_0 (V.vx (z_iret hC hr rfl (by omega) (by omega) dL_look_24 hf))))))))))))))
theorem m_L_look (Z : zT) (l : Launch) (htr : l.stackTraces = false) (x0 : Option Nat) (x1 : Int32) (x2 : Int32) (x3 : Int32) (x4 : Option Nat) : zHi Z l yL_look cL_look 6 hh_L_look 10 3 18 179 [va_rf x0, .int x1, .int x2, .int x3, va_rf x4] (f_L_look Z.2.2 x0 x1 x2 x3 x4) := by
  intro h K
  refine vx_ofWH (cc := cL_look) (maxL := 6) (ret := some .int) (hh := hh_L_look) (by decide) rfl ?_
  intro p e s m args below meth c s₁ B hml hv
  obtain ⟨rfl, hw, hNc, hf⟩ := hv
  exact V.entry (X := (p, l, e, _, s, m, _, below, meth, c)) (m_L_look_e (z_cxH B hml htr hw) B.returns (vx_table (x := yL_look) B (zq_at hw.1 mi_L_look.1 _)) hNc (Nat.le_of_ble_eq_true rfl) (Nat.le_of_ble_eq_true rfl) hf) hw.2.2.1 (by simp [lv_args, va_rf_cat, z_ci, z_cj, z_cf, z_cd]) (by simp [lg_sl, va_rf_cat, z_ci, z_cj, z_cf, z_cd])
def f_L_repair (g : Nat → Nat) (x0 : Option Nat) (x1 : Int32) (x2 : Int32) (x3 : Int32) (x4 : Option Nat) (h : AH) (Xf : Nat → AH → Prop) (K : Int32 → AH → Prop) : Prop :=
  cast h x0 7 (f_X6_repair g x0 x1 x2 x3 h (fun e h9 => if e = 3 then (K 1 h9) else (if e = 4 then (K 2 h9) else (False))) (fun v1 h2 => stJ h2 x4 0 (v1.toInt64) fun h3 => K 0 h3))
theorem m_L_repair_e {Z : zT} {X : zX} (hC : Cx Z X RL cL_repair 6 10 4 24 180) (hr : X.2.2.2.2.2.2.2.2.1.sig.returnType = some .int) (htb : (zc X).exceptionTable.toList = tableOf hh_L_repair) (hNc : zNc (zs X)) {x0 : Option Nat} {x1 : Int32} {x2 : Int32} {x3 : Int32} {x4 : Option Nat} {h : AH} {Xf : Nat → AH → Prop} {K : Int32 → AH → Prop} {cells slots : Nat} (hc : cells + 4 ≤ 4) (hs : slots + 24 ≤ 24) (hf : f_L_repair Z.2.2 x0 x1 x2 x3 x4 h Xf K) : V Z X (zEx Z X (zQi Z K) Xf 4 24) 6 h [(0, va_rf x0), (1, .int x1), (2, .int x2), (3, .int x3), (4, va_rf x4)] cells slots 0 [] := by
  unfold f_L_repair at hf
  exact (z_aload (q := 2) hC dL_repair_0 rfl 4 rfl (z_iconst (q := 3) (v := 0) hC dL_repair_2 rfl ic_0 (z_aload_n (q := 4) hC dL_repair_3 rfl 0 rfl (z_iload_n (q := 5) hC dL_repair_4 rfl 1 rfl (z_iload_n (q := 6) hC dL_repair_5 rfl 2 rfl (z_iload_n (q := 7) hC dL_repair_6 rfl 3 rfl (z_callTi (q := 10) (As := [.int x1, .int x2, .int x3]) hC mi_X6_repair ⟨q_477, q_478⟩ q_479 zct_6 (F := f_X6_repair Z.2.2 x0 x1 x2 x3) (m_X6_repair Z X.2.1 hC.2.2.2.2.2.2.2.2.2.1 x0 x1 x2 x3) (Nat.le_of_ble_eq_true rfl) (Nat.le_of_ble_eq_true rfl) rfl (by simp [va_rf_cat, z_ci, z_cj, z_cf, z_cd]) (by omega) (by omega) dL_repair_7 rfl (BX := fun e h9 => if e = 3 then (K 1 h9) else (if e = 4 then (K 2 h9) else (False))) hf rfl (fun e h9 hf => z_ite hf (fun he hf => z_catch hC hNc htb he [] (0, 12, 15, 21) [(0, 12, 19, 27)] rfl trivial (by decide) (by decide) zcl_3 zca_3 (rfl : _ = 15) (fun q9 => (z_astoreR (q := 17) (L' := [(5, va_rf (some q9)), (0, va_rf x0), (1, .int x1), (2, .int x2), (3, .int x3), (4, va_rf x4)]) hC dL_repair_15 rfl (Nat.le_of_ble_eq_true rfl) 4 rfl rfl rfl (z_iconst (q := 18) (v := 1) hC dL_repair_17 rfl ic_1 (V.vx (z_iret hC hr rfl (by omega) (by omega) dL_repair_18 hf)))))) (fun _ hf => z_ite hf (fun he hf => z_catch hC hNc htb he [(0, 12, 15, 21)] (0, 12, 19, 27) [] rfl ⟨⟨by decide, 3, zcl_3, by decide⟩, trivial⟩ (by decide) (by decide) zcl_4 zca_4 (rfl : _ = 19) (fun q9 => (z_astoreR (q := 21) (L' := [(5, va_rf (some q9)), (0, va_rf x0), (1, .int x1), (2, .int x2), (3, .int x3), (4, va_rf x4)]) hC dL_repair_19 rfl (Nat.le_of_ble_eq_true rfl) 4 rfl rfl rfl (z_iconst (q := 22) (v := 2) hC dL_repair_21 rfl ic_2 (V.vx (z_iret hC hr rfl (by omega) (by omega) dL_repair_22 hf)))))) (fun _ hf => hf.elim))) (fun v1 h2 hf => (z_i2l (q := 11) hC dL_repair_10 rfl (z_last (q := 12) hC dL_repair_11 rfl hf fun h3 hf => (z_goto (tgt := 23) hC dL_repair_12 rfl (z_iconst (q := 24) (v := 0) hC dL_repair_23 rfl ic_0 (V.vx (z_iret hC hr rfl (by omega) (by omega) dL_repair_24 hf))))))))))))))
theorem m_L_repair (Z : zT) (l : Launch) (htr : l.stackTraces = false) (x0 : Option Nat) (x1 : Int32) (x2 : Int32) (x3 : Int32) (x4 : Option Nat) : zHi Z l yL_repair cL_repair 6 hh_L_repair 10 4 24 180 [va_rf x0, .int x1, .int x2, .int x3, va_rf x4] (f_L_repair Z.2.2 x0 x1 x2 x3 x4) := by
  intro h K
  refine vx_ofWH (cc := cL_repair) (maxL := 6) (ret := some .int) (hh := hh_L_repair) (by decide) rfl ?_
  intro p e s m args below meth c s₁ B hml hv
  obtain ⟨rfl, hw, hNc, hf⟩ := hv
  exact V.entry (X := (p, l, e, _, s, m, _, below, meth, c)) (m_L_repair_e (z_cxH B hml htr hw) B.returns (vx_table (x := yL_repair) B (zq_at hw.1 mi_L_repair.1 _)) hNc (Nat.le_of_ble_eq_true rfl) (Nat.le_of_ble_eq_true rfl) hf) hw.2.2.1 (by simp [lv_args, va_rf_cat, z_ci, z_cj, z_cf, z_cd]) (by simp [lg_sl, va_rf_cat, z_ci, z_cj, z_cf, z_cd])
def f_L_cutOut (g : Nat → Nat) (x0 : Option Nat) (x1 : Int32) (x2 : Int32) (x3 : Option Nat) (h : AH) (Xf : Nat → AH → Prop) (K : Int32 → AH → Prop) : Prop :=
  cast h x0 7 (f_X6_cutOut g x0 x1 x2 h (fun e h9 => if e = 3 then (K 1 h9) else (if e = 4 then (K 2 h9) else (False))) (fun v1 h2 => stJ h2 x3 0 (v1.toInt64) fun h3 => K 0 h3))
theorem m_L_cutOut_e {Z : zT} {X : zX} (hC : Cx Z X RL cL_cutOut 5 10 3 18 178) (hr : X.2.2.2.2.2.2.2.2.1.sig.returnType = some .int) (htb : (zc X).exceptionTable.toList = tableOf hh_L_cutOut) (hNc : zNc (zs X)) {x0 : Option Nat} {x1 : Int32} {x2 : Int32} {x3 : Option Nat} {h : AH} {Xf : Nat → AH → Prop} {K : Int32 → AH → Prop} {cells slots : Nat} (hc : cells + 3 ≤ 3) (hs : slots + 18 ≤ 18) (hf : f_L_cutOut Z.2.2 x0 x1 x2 x3 h Xf K) : V Z X (zEx Z X (zQi Z K) Xf 3 18) 5 h [(0, va_rf x0), (1, .int x1), (2, .int x2), (3, va_rf x3)] cells slots 0 [] := by
  unfold f_L_cutOut at hf
  exact (z_aload_n (q := 1) hC dL_cutOut_0 rfl 3 rfl (z_iconst (q := 2) (v := 0) hC dL_cutOut_1 rfl ic_0 (z_aload_n (q := 3) hC dL_cutOut_2 rfl 0 rfl (z_iload_n (q := 4) hC dL_cutOut_3 rfl 1 rfl (z_iload_n (q := 5) hC dL_cutOut_4 rfl 2 rfl (z_callTi (q := 8) (As := [.int x1, .int x2]) hC mi_X6_cutOut ⟨q_480, q_481⟩ q_482 zct_6 (F := f_X6_cutOut Z.2.2 x0 x1 x2) (m_X6_cutOut Z X.2.1 hC.2.2.2.2.2.2.2.2.2.1 x0 x1 x2) (Nat.le_of_ble_eq_true rfl) (Nat.le_of_ble_eq_true rfl) rfl (by simp [va_rf_cat, z_ci, z_cj, z_cf, z_cd]) (by omega) (by omega) dL_cutOut_5 rfl (BX := fun e h9 => if e = 3 then (K 1 h9) else (if e = 4 then (K 2 h9) else (False))) hf rfl (fun e h9 hf => z_ite hf (fun he hf => z_catch hC hNc htb he [] (0, 10, 13, 21) [(0, 10, 17, 27)] rfl trivial (by decide) (by decide) zcl_3 zca_3 (rfl : _ = 13) (fun q9 => (z_astoreR (q := 15) (L' := [(4, va_rf (some q9)), (0, va_rf x0), (1, .int x1), (2, .int x2), (3, va_rf x3)]) hC dL_cutOut_13 rfl (Nat.le_of_ble_eq_true rfl) 3 rfl rfl rfl (z_iconst (q := 16) (v := 1) hC dL_cutOut_15 rfl ic_1 (V.vx (z_iret hC hr rfl (by omega) (by omega) dL_cutOut_16 hf)))))) (fun _ hf => z_ite hf (fun he hf => z_catch hC hNc htb he [(0, 10, 13, 21)] (0, 10, 17, 27) [] rfl ⟨⟨by decide, 3, zcl_3, by decide⟩, trivial⟩ (by decide) (by decide) zcl_4 zca_4 (rfl : _ = 17) (fun q9 => (z_astoreR (q := 19) (L' := [(4, va_rf (some q9)), (0, va_rf x0), (1, .int x1), (2, .int x2), (3, va_rf x3)]) hC dL_cutOut_17 rfl (Nat.le_of_ble_eq_true rfl) 3 rfl rfl rfl (z_iconst (q := 20) (v := 2) hC dL_cutOut_19 rfl ic_2 (V.vx (z_iret hC hr rfl (by omega) (by omega) dL_cutOut_20 hf)))))) (fun _ hf => hf.elim))) (fun v1 h2 hf => (z_i2l (q := 9) hC dL_cutOut_8 rfl (z_last (q := 10) hC dL_cutOut_9 rfl hf fun h3 hf => (z_goto (tgt := 21) hC dL_cutOut_10 rfl (z_iconst (q := 22) (v := 0) hC dL_cutOut_21 rfl ic_0 (V.vx (z_iret hC hr rfl (by omega) (by omega) dL_cutOut_22 hf)))))))))))))
theorem m_L_cutOut (Z : zT) (l : Launch) (htr : l.stackTraces = false) (x0 : Option Nat) (x1 : Int32) (x2 : Int32) (x3 : Option Nat) : zHi Z l yL_cutOut cL_cutOut 5 hh_L_cutOut 10 3 18 178 [va_rf x0, .int x1, .int x2, va_rf x3] (f_L_cutOut Z.2.2 x0 x1 x2 x3) := by
  intro h K
  refine vx_ofWH (cc := cL_cutOut) (maxL := 5) (ret := some .int) (hh := hh_L_cutOut) (by decide) rfl ?_
  intro p e s m args below meth c s₁ B hml hv
  obtain ⟨rfl, hw, hNc, hf⟩ := hv
  exact V.entry (X := (p, l, e, _, s, m, _, below, meth, c)) (m_L_cutOut_e (z_cxH B hml htr hw) B.returns (vx_table (x := yL_cutOut) B (zq_at hw.1 mi_L_cutOut.1 _)) hNc (Nat.le_of_ble_eq_true rfl) (Nat.le_of_ble_eq_true rfl) hf) hw.2.2.1 (by simp [lv_args, va_rf_cat, z_ci, z_cj, z_cf, z_cd]) (by simp [lg_sl, va_rf_cat, z_ci, z_cj, z_cf, z_cd])
def f_L_joint (g : Nat → Nat) (x0 : Option Nat) (x1 : Int32) (x2 : Int32) (x3 : Option Nat) (h : AH) (Xf : Nat → AH → Prop) (K : Int32 → AH → Prop) : Prop :=
  cast h x0 7 (f_X6_joint g x0 x1 x2 h (fun e h9 => if e = 3 then (K 1 h9) else (False)) (fun v1 h2 => stJ h2 x3 0 (v1.toInt64) fun h3 => K 0 h3))
theorem m_L_joint_e {Z : zT} {X : zX} (hC : Cx Z X RL cL_joint 5 10 2 12 177) (hr : X.2.2.2.2.2.2.2.2.1.sig.returnType = some .int) (htb : (zc X).exceptionTable.toList = tableOf hh_L_joint) (hNc : zNc (zs X)) {x0 : Option Nat} {x1 : Int32} {x2 : Int32} {x3 : Option Nat} {h : AH} {Xf : Nat → AH → Prop} {K : Int32 → AH → Prop} {cells slots : Nat} (hc : cells + 2 ≤ 2) (hs : slots + 12 ≤ 12) (hf : f_L_joint Z.2.2 x0 x1 x2 x3 h Xf K) : V Z X (zEx Z X (zQi Z K) Xf 2 12) 5 h [(0, va_rf x0), (1, .int x1), (2, .int x2), (3, va_rf x3)] cells slots 0 [] := by
  unfold f_L_joint at hf
  exact (z_aload_n (q := 1) hC dL_joint_0 rfl 3 rfl (z_iconst (q := 2) (v := 0) hC dL_joint_1 rfl ic_0 (z_aload_n (q := 3) hC dL_joint_2 rfl 0 rfl (z_iload_n (q := 4) hC dL_joint_3 rfl 1 rfl (z_iload_n (q := 5) hC dL_joint_4 rfl 2 rfl (z_callTi (q := 8) (As := [.int x1, .int x2]) hC mi_X6_joint ⟨q_483, q_484⟩ q_485 zct_6 (F := f_X6_joint Z.2.2 x0 x1 x2) (m_X6_joint Z X.2.1 hC.2.2.2.2.2.2.2.2.2.1 x0 x1 x2) (Nat.le_of_ble_eq_true rfl) (Nat.le_of_ble_eq_true rfl) rfl (by simp [va_rf_cat, z_ci, z_cj, z_cf, z_cd]) (by omega) (by omega) dL_joint_5 rfl (BX := fun e h9 => if e = 3 then (K 1 h9) else (False)) hf rfl (fun e h9 hf => z_ite hf (fun he hf => z_catch hC hNc htb he [] (0, 10, 13, 21) [] rfl trivial (by decide) (by decide) zcl_3 zca_3 (rfl : _ = 13) (fun q9 => (z_astoreR (q := 15) (L' := [(4, va_rf (some q9)), (0, va_rf x0), (1, .int x1), (2, .int x2), (3, va_rf x3)]) hC dL_joint_13 rfl (Nat.le_of_ble_eq_true rfl) 3 rfl rfl rfl (z_iconst (q := 16) (v := 1) hC dL_joint_15 rfl ic_1 (V.vx (z_iret hC hr rfl (by omega) (by omega) dL_joint_16 hf)))))) (fun _ hf => hf.elim)) (fun v1 h2 hf => (z_i2l (q := 9) hC dL_joint_8 rfl (z_last (q := 10) hC dL_joint_9 rfl hf fun h3 hf => (z_goto (tgt := 17) hC dL_joint_10 rfl (z_iconst (q := 18) (v := 0) hC dL_joint_17 rfl ic_0 (V.vx (z_iret hC hr rfl (by omega) (by omega) dL_joint_18 hf)))))))))))))
theorem m_L_joint (Z : zT) (l : Launch) (htr : l.stackTraces = false) (x0 : Option Nat) (x1 : Int32) (x2 : Int32) (x3 : Option Nat) : zHi Z l yL_joint cL_joint 5 hh_L_joint 10 2 12 177 [va_rf x0, .int x1, .int x2, va_rf x3] (f_L_joint Z.2.2 x0 x1 x2 x3) := by
  intro h K
  refine vx_ofWH (cc := cL_joint) (maxL := 5) (ret := some .int) (hh := hh_L_joint) (by decide) rfl ?_
  intro p e s m args below meth c s₁ B hml hv
  obtain ⟨rfl, hw, hNc, hf⟩ := hv
  exact V.entry (X := (p, l, e, _, s, m, _, below, meth, c)) (m_L_joint_e (z_cxH B hml htr hw) B.returns (vx_table (x := yL_joint) B (zq_at hw.1 mi_L_joint.1 _)) hNc (Nat.le_of_ble_eq_true rfl) (Nat.le_of_ble_eq_true rfl) hf) hw.2.2.1 (by simp [lv_args, va_rf_cat, z_ci, z_cj, z_cf, z_cd]) (by simp [lg_sl, va_rf_cat, z_ci, z_cj, z_cf, z_cd])
def f_L_welderOf (g : Nat → Nat) (x0 : Option Nat) (x1 : Int32) (x2 : Int32) (x3 : Option Nat) (h : AH) (Xf : Nat → AH → Prop) (K : Int32 → AH → Prop) : Prop :=
  cast h x0 7 (f_X6_welderOf g x0 x1 x2 h (fun e h9 => if e = 3 then (K 1 h9) else (if e = 5 then (K 2 h9) else (False))) (fun v1 h2 => stJ h2 x3 0 (v1.toInt64) fun h3 => K 0 h3))
theorem m_L_welderOf_e {Z : zT} {X : zX} (hC : Cx Z X RL cL_welderOf 5 10 3 18 178) (hr : X.2.2.2.2.2.2.2.2.1.sig.returnType = some .int) (htb : (zc X).exceptionTable.toList = tableOf hh_L_welderOf) (hNc : zNc (zs X)) {x0 : Option Nat} {x1 : Int32} {x2 : Int32} {x3 : Option Nat} {h : AH} {Xf : Nat → AH → Prop} {K : Int32 → AH → Prop} {cells slots : Nat} (hc : cells + 3 ≤ 3) (hs : slots + 18 ≤ 18) (hf : f_L_welderOf Z.2.2 x0 x1 x2 x3 h Xf K) : V Z X (zEx Z X (zQi Z K) Xf 3 18) 5 h [(0, va_rf x0), (1, .int x1), (2, .int x2), (3, va_rf x3)] cells slots 0 [] := by
  unfold f_L_welderOf at hf
  exact (z_aload_n (q := 1) hC dL_welderOf_0 rfl 3 rfl (z_iconst (q := 2) (v := 0) hC dL_welderOf_1 rfl ic_0 (z_aload_n (q := 3) hC dL_welderOf_2 rfl 0 rfl (z_iload_n (q := 4) hC dL_welderOf_3 rfl 1 rfl (z_iload_n (q := 5) hC dL_welderOf_4 rfl 2 rfl (z_callTi (q := 8) (As := [.int x1, .int x2]) hC mi_X6_welderOf ⟨q_486, q_487⟩ q_488 zct_6 (F := f_X6_welderOf Z.2.2 x0 x1 x2) (m_X6_welderOf Z X.2.1 hC.2.2.2.2.2.2.2.2.2.1 x0 x1 x2) (Nat.le_of_ble_eq_true rfl) (Nat.le_of_ble_eq_true rfl) rfl (by simp [va_rf_cat, z_ci, z_cj, z_cf, z_cd]) (by omega) (by omega) dL_welderOf_5 rfl (BX := fun e h9 => if e = 3 then (K 1 h9) else (if e = 5 then (K 2 h9) else (False))) hf rfl (fun e h9 hf => z_ite hf (fun he hf => z_catch hC hNc htb he [] (0, 10, 13, 21) [(0, 10, 17, 63)] rfl trivial (by decide) (by decide) zcl_3 zca_3 (rfl : _ = 13) (fun q9 => (z_astoreR (q := 15) (L' := [(4, va_rf (some q9)), (0, va_rf x0), (1, .int x1), (2, .int x2), (3, va_rf x3)]) hC dL_welderOf_13 rfl (Nat.le_of_ble_eq_true rfl) 3 rfl rfl rfl (z_iconst (q := 16) (v := 1) hC dL_welderOf_15 rfl ic_1 (V.vx (z_iret hC hr rfl (by omega) (by omega) dL_welderOf_16 hf)))))) (fun _ hf => z_ite hf (fun he hf => z_catch hC hNc htb he [(0, 10, 13, 21)] (0, 10, 17, 63) [] rfl ⟨⟨by decide, 3, zcl_3, by decide⟩, trivial⟩ (by decide) (by decide) zcl_5 zca_5 (rfl : _ = 17) (fun q9 => (z_astoreR (q := 19) (L' := [(4, va_rf (some q9)), (0, va_rf x0), (1, .int x1), (2, .int x2), (3, va_rf x3)]) hC dL_welderOf_17 rfl (Nat.le_of_ble_eq_true rfl) 3 rfl rfl rfl (z_iconst (q := 20) (v := 2) hC dL_welderOf_19 rfl ic_2 (V.vx (z_iret hC hr rfl (by omega) (by omega) dL_welderOf_20 hf)))))) (fun _ hf => hf.elim))) (fun v1 h2 hf => (z_i2l (q := 9) hC dL_welderOf_8 rfl (z_last (q := 10) hC dL_welderOf_9 rfl hf fun h3 hf => (z_goto (tgt := 21) hC dL_welderOf_10 rfl (z_iconst (q := 22) (v := 0) hC dL_welderOf_21 rfl ic_0 (V.vx (z_iret hC hr rfl (by omega) (by omega) dL_welderOf_22 hf)))))))))))))
theorem m_L_welderOf (Z : zT) (l : Launch) (htr : l.stackTraces = false) (x0 : Option Nat) (x1 : Int32) (x2 : Int32) (x3 : Option Nat) : zHi Z l yL_welderOf cL_welderOf 5 hh_L_welderOf 10 3 18 178 [va_rf x0, .int x1, .int x2, va_rf x3] (f_L_welderOf Z.2.2 x0 x1 x2 x3) := by
  intro h K
  refine vx_ofWH (cc := cL_welderOf) (maxL := 5) (ret := some .int) (hh := hh_L_welderOf) (by decide) rfl ?_
  intro p e s m args below meth c s₁ B hml hv
  obtain ⟨rfl, hw, hNc, hf⟩ := hv
  exact V.entry (X := (p, l, e, _, s, m, _, below, meth, c)) (m_L_welderOf_e (z_cxH B hml htr hw) B.returns (vx_table (x := yL_welderOf) B (zq_at hw.1 mi_L_welderOf.1 _)) hNc (Nat.le_of_ble_eq_true rfl) (Nat.le_of_ble_eq_true rfl) hf) hw.2.2.1 (by simp [lv_args, va_rf_cat, z_ci, z_cj, z_cf, z_cd]) (by simp [lg_sl, va_rf_cat, z_ci, z_cj, z_cf, z_cd])
def f_L_toLook (g : Nat → Nat) (x0 : Option Nat) (x1 : Int32) (x2 : Option Nat) (h : AH) (Xf : Nat → AH → Prop) (K : Int32 → AH → Prop) : Prop :=
  cast h x0 7 (f_X6_toLook g x0 x1 h (fun e h9 => if e = 3 then (K 1 h9) else (False)) (fun v1 h2 => stJ h2 x2 0 (v1.toInt64) fun h3 => K 0 h3))
theorem m_L_toLook_e {Z : zT} {X : zX} (hC : Cx Z X RL cL_toLook 4 9 1 6 153) (hr : X.2.2.2.2.2.2.2.2.1.sig.returnType = some .int) (htb : (zc X).exceptionTable.toList = tableOf hh_L_toLook) (hNc : zNc (zs X)) {x0 : Option Nat} {x1 : Int32} {x2 : Option Nat} {h : AH} {Xf : Nat → AH → Prop} {K : Int32 → AH → Prop} {cells slots : Nat} (hc : cells + 1 ≤ 1) (hs : slots + 6 ≤ 6) (hf : f_L_toLook Z.2.2 x0 x1 x2 h Xf K) : V Z X (zEx Z X (zQi Z K) Xf 1 6) 4 h [(0, va_rf x0), (1, .int x1), (2, va_rf x2)] cells slots 0 [] := by
  unfold f_L_toLook at hf
  exact (z_aload_n (q := 1) hC dL_toLook_0 rfl 2 rfl (z_iconst (q := 2) (v := 0) hC dL_toLook_1 rfl ic_0 (z_aload_n (q := 3) hC dL_toLook_2 rfl 0 rfl (z_iload_n (q := 4) hC dL_toLook_3 rfl 1 rfl (z_callTi (q := 7) (As := [.int x1]) hC mi_X6_toLook ⟨q_489, q_490⟩ q_491 zct_6 (F := f_X6_toLook Z.2.2 x0 x1) (m_X6_toLook Z X.2.1 hC.2.2.2.2.2.2.2.2.2.1 x0 x1) (Nat.le_of_ble_eq_true rfl) (Nat.le_of_ble_eq_true rfl) rfl (by simp [va_rf_cat, z_ci, z_cj, z_cf, z_cd]) (by omega) (by omega) dL_toLook_4 rfl (BX := fun e h9 => if e = 3 then (K 1 h9) else (False)) hf rfl (fun e h9 hf => z_ite hf (fun he hf => z_catch hC hNc htb he [] (0, 9, 12, 21) [] rfl trivial (by decide) (by decide) zcl_3 zca_3 (rfl : _ = 12) (fun q9 => (z_astoreR_n (q := 13) (L' := [(3, va_rf (some q9)), (0, va_rf x0), (1, .int x1), (2, va_rf x2)]) hC dL_toLook_12 rfl rfl (Nat.le_of_ble_eq_true rfl) 2 rfl rfl rfl (z_iconst (q := 14) (v := 1) hC dL_toLook_13 rfl ic_1 (V.vx (z_iret hC hr rfl (by omega) (by omega) dL_toLook_14 hf)))))) (fun _ hf => hf.elim)) (fun v1 h2 hf => (z_i2l (q := 8) hC dL_toLook_7 rfl (z_last (q := 9) hC dL_toLook_8 rfl hf fun h3 hf => (z_goto (tgt := 15) hC dL_toLook_9 rfl (z_iconst (q := 16) (v := 0) hC dL_toLook_15 rfl ic_0 (V.vx (z_iret hC hr rfl (by omega) (by omega) dL_toLook_16 hf))))))))))))
theorem m_L_toLook (Z : zT) (l : Launch) (htr : l.stackTraces = false) (x0 : Option Nat) (x1 : Int32) (x2 : Option Nat) : zHi Z l yL_toLook cL_toLook 4 hh_L_toLook 9 1 6 153 [va_rf x0, .int x1, va_rf x2] (f_L_toLook Z.2.2 x0 x1 x2) := by
  intro h K
  refine vx_ofWH (cc := cL_toLook) (maxL := 4) (ret := some .int) (hh := hh_L_toLook) (by decide) rfl ?_
  intro p e s m args below meth c s₁ B hml hv
  obtain ⟨rfl, hw, hNc, hf⟩ := hv
  exact V.entry (X := (p, l, e, _, s, m, _, below, meth, c)) (m_L_toLook_e (z_cxH B hml htr hw) B.returns (vx_table (x := yL_toLook) B (zq_at hw.1 mi_L_toLook.1 _)) hNc (Nat.le_of_ble_eq_true rfl) (Nat.le_of_ble_eq_true rfl) hf) hw.2.2.1 (by simp [lv_args, va_rf_cat, z_ci, z_cj, z_cf, z_cd]) (by simp [lg_sl, va_rf_cat, z_ci, z_cj, z_cf, z_cd])
def f_L_failed (g : Nat → Nat) (x0 : Option Nat) (x1 : Int32) (x2 : Option Nat) (h : AH) (Xf : Nat → AH → Prop) (K : Int32 → AH → Prop) : Prop :=
  cast h x0 7 (f_X6_failed g x0 x1 h (fun e h9 => if e = 3 then (K 1 h9) else (False)) (fun v1 h2 => stJ h2 x2 0 (v1.toInt64) fun h3 => K 0 h3))
theorem m_L_failed_e {Z : zT} {X : zX} (hC : Cx Z X RL cL_failed 4 8 1 6 132) (hr : X.2.2.2.2.2.2.2.2.1.sig.returnType = some .int) (htb : (zc X).exceptionTable.toList = tableOf hh_L_failed) (hNc : zNc (zs X)) {x0 : Option Nat} {x1 : Int32} {x2 : Option Nat} {h : AH} {Xf : Nat → AH → Prop} {K : Int32 → AH → Prop} {cells slots : Nat} (hc : cells + 1 ≤ 1) (hs : slots + 6 ≤ 6) (hf : f_L_failed Z.2.2 x0 x1 x2 h Xf K) : V Z X (zEx Z X (zQi Z K) Xf 1 6) 4 h [(0, va_rf x0), (1, .int x1), (2, va_rf x2)] cells slots 0 [] := by
  unfold f_L_failed at hf
  exact (z_aload_n (q := 1) hC dL_failed_0 rfl 2 rfl (z_iconst (q := 2) (v := 0) hC dL_failed_1 rfl ic_0 (z_aload_n (q := 3) hC dL_failed_2 rfl 0 rfl (z_iload_n (q := 4) hC dL_failed_3 rfl 1 rfl (z_callTi (q := 7) (As := [.int x1]) hC mi_X6_failed ⟨q_492, q_493⟩ q_494 zct_6 (F := f_X6_failed Z.2.2 x0 x1) (m_X6_failed Z X.2.1 hC.2.2.2.2.2.2.2.2.2.1 x0 x1) (Nat.le_of_ble_eq_true rfl) (Nat.le_of_ble_eq_true rfl) rfl (by simp [va_rf_cat, z_ci, z_cj, z_cf, z_cd]) (by omega) (by omega) dL_failed_4 rfl (BX := fun e h9 => if e = 3 then (K 1 h9) else (False)) hf rfl (fun e h9 hf => z_ite hf (fun he hf => z_catch hC hNc htb he [] (0, 9, 12, 21) [] rfl trivial (by decide) (by decide) zcl_3 zca_3 (rfl : _ = 12) (fun q9 => (z_astoreR_n (q := 13) (L' := [(3, va_rf (some q9)), (0, va_rf x0), (1, .int x1), (2, va_rf x2)]) hC dL_failed_12 rfl rfl (Nat.le_of_ble_eq_true rfl) 2 rfl rfl rfl (z_iconst (q := 14) (v := 1) hC dL_failed_13 rfl ic_1 (V.vx (z_iret hC hr rfl (by omega) (by omega) dL_failed_14 hf)))))) (fun _ hf => hf.elim)) (fun v1 h2 hf => (z_i2l (q := 8) hC dL_failed_7 rfl (z_last (q := 9) hC dL_failed_8 rfl hf fun h3 hf => (z_goto (tgt := 15) hC dL_failed_9 rfl (z_iconst (q := 16) (v := 0) hC dL_failed_15 rfl ic_0 (V.vx (z_iret hC hr rfl (by omega) (by omega) dL_failed_16 hf))))))))))))
theorem m_L_failed (Z : zT) (l : Launch) (htr : l.stackTraces = false) (x0 : Option Nat) (x1 : Int32) (x2 : Option Nat) : zHi Z l yL_failed cL_failed 4 hh_L_failed 8 1 6 132 [va_rf x0, .int x1, va_rf x2] (f_L_failed Z.2.2 x0 x1 x2) := by
  intro h K
  refine vx_ofWH (cc := cL_failed) (maxL := 4) (ret := some .int) (hh := hh_L_failed) (by decide) rfl ?_
  intro p e s m args below meth c s₁ B hml hv
  obtain ⟨rfl, hw, hNc, hf⟩ := hv
  exact V.entry (X := (p, l, e, _, s, m, _, below, meth, c)) (m_L_failed_e (z_cxH B hml htr hw) B.returns (vx_table (x := yL_failed) B (zq_at hw.1 mi_L_failed.1 _)) hNc (Nat.le_of_ble_eq_true rfl) (Nat.le_of_ble_eq_true rfl) hf) hw.2.2.1 (by simp [lv_args, va_rf_cat, z_ci, z_cj, z_cf, z_cd]) (by simp [lg_sl, va_rf_cat, z_ci, z_cj, z_cf, z_cd])
def f_L_pass (g : Nat → Nat) (x0 : Option Nat) (x1 : Int32) (x2 : Option Nat) (h : AH) (Xf : Nat → AH → Prop) (K : Int32 → AH → Prop) : Prop :=
  cast h x0 7 (f_X6_pass g x0 x1 h (fun e h9 => if e = 1 then (K 1 h9) else (if e = 2 then (K 2 h9) else (False))) (fun v1 h2 => stJ h2 x2 0 (v1.toInt64) fun h3 => K 0 h3))
theorem m_L_pass_e {Z : zT} {X : zX} (hC : Cx Z X RL cL_pass 4 7 1 6 111) (hr : X.2.2.2.2.2.2.2.2.1.sig.returnType = some .int) (htb : (zc X).exceptionTable.toList = tableOf hh_L_pass) (hNc : zNc (zs X)) {x0 : Option Nat} {x1 : Int32} {x2 : Option Nat} {h : AH} {Xf : Nat → AH → Prop} {K : Int32 → AH → Prop} {cells slots : Nat} (hc : cells + 1 ≤ 1) (hs : slots + 6 ≤ 6) (hf : f_L_pass Z.2.2 x0 x1 x2 h Xf K) : V Z X (zEx Z X (zQi Z K) Xf 1 6) 4 h [(0, va_rf x0), (1, .int x1), (2, va_rf x2)] cells slots 0 [] := by
  unfold f_L_pass at hf
  exact (z_aload_n (q := 1) hC dL_pass_0 rfl 2 rfl (z_iconst (q := 2) (v := 0) hC dL_pass_1 rfl ic_0 (z_aload_n (q := 3) hC dL_pass_2 rfl 0 rfl (z_iload_n (q := 4) hC dL_pass_3 rfl 1 rfl (z_callTi (q := 7) (As := [.int x1]) hC mi_X6_pass ⟨q_495, q_496⟩ q_497 zct_6 (F := f_X6_pass Z.2.2 x0 x1) (m_X6_pass Z X.2.1 hC.2.2.2.2.2.2.2.2.2.1 x0 x1) (Nat.le_of_ble_eq_true rfl) (Nat.le_of_ble_eq_true rfl) rfl (by simp [va_rf_cat, z_ci, z_cj, z_cf, z_cd]) (by omega) (by omega) dL_pass_4 rfl (BX := fun e h9 => if e = 1 then (K 1 h9) else (if e = 2 then (K 2 h9) else (False))) hf rfl (fun e h9 hf => z_ite hf (fun he hf => z_catch hC hNc htb he [] (0, 9, 12, 13) [(0, 9, 15, 15)] rfl trivial (by decide) (by decide) zcl_1 zca_1 (rfl : _ = 12) (fun q9 => (z_astoreR_n (q := 13) (L' := [(3, va_rf (some q9)), (0, va_rf x0), (1, .int x1), (2, va_rf x2)]) hC dL_pass_12 rfl rfl (Nat.le_of_ble_eq_true rfl) 2 rfl rfl rfl (z_iconst (q := 14) (v := 1) hC dL_pass_13 rfl ic_1 (V.vx (z_iret hC hr rfl (by omega) (by omega) dL_pass_14 hf)))))) (fun _ hf => z_ite hf (fun he hf => z_catch hC hNc htb he [(0, 9, 12, 13)] (0, 9, 15, 15) [] rfl ⟨⟨by decide, 1, zcl_1, by decide⟩, trivial⟩ (by decide) (by decide) zcl_2 zca_2 (rfl : _ = 15) (fun q9 => (z_astoreR_n (q := 16) (L' := [(3, va_rf (some q9)), (0, va_rf x0), (1, .int x1), (2, va_rf x2)]) hC dL_pass_15 rfl rfl (Nat.le_of_ble_eq_true rfl) 2 rfl rfl rfl (z_iconst (q := 17) (v := 2) hC dL_pass_16 rfl ic_2 (V.vx (z_iret hC hr rfl (by omega) (by omega) dL_pass_17 hf)))))) (fun _ hf => hf.elim))) (fun v1 h2 hf => (z_i2l (q := 8) hC dL_pass_7 rfl (z_last (q := 9) hC dL_pass_8 rfl hf fun h3 hf => (z_goto (tgt := 18) hC dL_pass_9 rfl (z_iconst (q := 19) (v := 0) hC dL_pass_18 rfl ic_0 (V.vx (z_iret hC hr rfl (by omega) (by omega) dL_pass_19 hf))))))))))))
theorem m_L_pass (Z : zT) (l : Launch) (htr : l.stackTraces = false) (x0 : Option Nat) (x1 : Int32) (x2 : Option Nat) : zHi Z l yL_pass cL_pass 4 hh_L_pass 7 1 6 111 [va_rf x0, .int x1, va_rf x2] (f_L_pass Z.2.2 x0 x1 x2) := by
  intro h K
  refine vx_ofWH (cc := cL_pass) (maxL := 4) (ret := some .int) (hh := hh_L_pass) (by decide) rfl ?_
  intro p e s m args below meth c s₁ B hml hv
  obtain ⟨rfl, hw, hNc, hf⟩ := hv
  exact V.entry (X := (p, l, e, _, s, m, _, below, meth, c)) (m_L_pass_e (z_cxH B hml htr hw) B.returns (vx_table (x := yL_pass) B (zq_at hw.1 mi_L_pass.1 _)) hNc (Nat.le_of_ble_eq_true rfl) (Nat.le_of_ble_eq_true rfl) hf) hw.2.2.1 (by simp [lv_args, va_rf_cat, z_ci, z_cj, z_cf, z_cd]) (by simp [lg_sl, va_rf_cat, z_ci, z_cj, z_cf, z_cd])
def f_L_join_B20 (g : Nat → Nat) (s0 : Option Nat) (s1 : Int32) (s2 : Int64) (h : AH) (Xf : Nat → AH → Prop) (K : Int32 → AH → Prop) : Prop :=
  stJ h s0 s1 s2 fun h1 => K 0 h1
def f_L_join (g : Nat → Nat) (x0 : Option Nat) (x1 : Int32) (x2 : Int32) (x3 : Int32) (x4 : Int32) (x5 : Option Nat) (h : AH) (Xf : Nat → AH → Prop) (K : Int32 → AH → Prop) : Prop :=
  cast h x0 7 (f_X6_join g x0 x1 x2 x3 x4 h (fun e h9 => if e = 3 then (K 1 h9) else (if e = 1 then (K 2 h9) else (if e = 4 then (K 3 h9) else (False)))) (fun v2 h3 => if v2 = 0 then (f_L_join_B20 g x5 0 (0 : Int64) h3 Xf K) else (f_L_join_B20 g x5 0 (1 : Int64) h3 Xf K)))
theorem m_L_join_B20 {Z : zT} {X : zX} (hC : Cx Z X RL cL_join 7 9 3 18 159) (hr : X.2.2.2.2.2.2.2.2.1.sig.returnType = some .int) (htb : (zc X).exceptionTable.toList = tableOf hh_L_join) (hNc : zNc (zs X))  {s0 : Option Nat} {s1 : Int32} {s2 : Int64} {h : AH} {Xf : Nat → AH → Prop} {K : Int32 → AH → Prop} {cells slots : Nat} (hc : cells + 0 ≤ 3) (hs : slots + 0 ≤ 18) (hf : f_L_join_B20 Z.2.2 s0 s1 s2 h Xf K) : V Z X (zEx Z X (zQi Z K) Xf 3 18) 7 h [] cells slots 20 [.long s2, .int s1, va_rf s0] := by
  unfold f_L_join_B20 at hf
  exact (z_last (q := 21) hC dL_join_20 rfl hf fun h1 hf => (z_goto (tgt := 36) hC dL_join_21 rfl (z_iconst (q := 37) (v := 0) hC dL_join_36 rfl ic_0 (V.vx (z_iret hC hr rfl (by omega) (by omega) dL_join_37 hf)))))
theorem m_L_join_e {Z : zT} {X : zX} (hC : Cx Z X RL cL_join 7 9 3 18 159) (hr : X.2.2.2.2.2.2.2.2.1.sig.returnType = some .int) (htb : (zc X).exceptionTable.toList = tableOf hh_L_join) (hNc : zNc (zs X)) {x0 : Option Nat} {x1 : Int32} {x2 : Int32} {x3 : Int32} {x4 : Int32} {x5 : Option Nat} {h : AH} {Xf : Nat → AH → Prop} {K : Int32 → AH → Prop} {cells slots : Nat} (hc : cells + 3 ≤ 3) (hs : slots + 18 ≤ 18) (hf : f_L_join Z.2.2 x0 x1 x2 x3 x4 x5 h Xf K) : V Z X (zEx Z X (zQi Z K) Xf 3 18) 7 h [(0, va_rf x0), (1, .int x1), (2, .int x2), (3, .int x3), (4, .int x4), (5, va_rf x5)] cells slots 0 [] := by
  unfold f_L_join at hf
  exact (z_aload (q := 2) hC dL_join_0 rfl 5 rfl (z_iconst (q := 3) (v := 0) hC dL_join_2 rfl ic_0 (z_aload_n (q := 4) hC dL_join_3 rfl 0 rfl (z_iload_n (q := 5) hC dL_join_4 rfl 1 rfl (z_iload_n (q := 6) hC dL_join_5 rfl 2 rfl (z_iload_n (q := 7) hC dL_join_6 rfl 3 rfl (z_iload (q := 9) hC dL_join_7 rfl 4 rfl (z_callTi (q := 12) (As := [.int x1, .int x2, .int x3, .int x4]) hC mi_X6_join ⟨q_498, q_499⟩ q_500 zct_6 (F := f_X6_join Z.2.2 x0 x1 x2 x3 x4) (m_X6_join Z X.2.1 hC.2.2.2.2.2.2.2.2.2.1 x0 x1 x2 x3 x4) (Nat.le_of_ble_eq_true rfl) (Nat.le_of_ble_eq_true rfl) rfl (by simp [va_rf_cat, z_ci, z_cj, z_cf, z_cd]) (by omega) (by omega) dL_join_9 rfl (BX := fun e h9 => if e = 3 then (K 1 h9) else (if e = 1 then (K 2 h9) else (if e = 4 then (K 3 h9) else (False)))) hf rfl (fun e h9 hf => z_ite hf (fun he hf => z_catch hC hNc htb he [] (0, 21, 24, 21) [(0, 21, 28, 13), (0, 21, 32, 27)] rfl trivial (by decide) (by decide) zcl_3 zca_3 (rfl : _ = 24) (fun q9 => (z_astoreR (q := 26) (L' := [(6, va_rf (some q9)), (0, va_rf x0), (1, .int x1), (2, .int x2), (3, .int x3), (4, .int x4), (5, va_rf x5)]) hC dL_join_24 rfl (Nat.le_of_ble_eq_true rfl) 5 rfl rfl rfl (z_iconst (q := 27) (v := 1) hC dL_join_26 rfl ic_1 (V.vx (z_iret hC hr rfl (by omega) (by omega) dL_join_27 hf)))))) (fun _ hf => z_ite hf (fun he hf => z_catch hC hNc htb he [(0, 21, 24, 21)] (0, 21, 28, 13) [(0, 21, 32, 27)] rfl ⟨⟨by decide, 3, zcl_3, by decide⟩, trivial⟩ (by decide) (by decide) zcl_1 zca_1 (rfl : _ = 28) (fun q9 => (z_astoreR (q := 30) (L' := [(6, va_rf (some q9)), (0, va_rf x0), (1, .int x1), (2, .int x2), (3, .int x3), (4, .int x4), (5, va_rf x5)]) hC dL_join_28 rfl (Nat.le_of_ble_eq_true rfl) 5 rfl rfl rfl (z_iconst (q := 31) (v := 2) hC dL_join_30 rfl ic_2 (V.vx (z_iret hC hr rfl (by omega) (by omega) dL_join_31 hf)))))) (fun _ hf => z_ite hf (fun he hf => z_catch hC hNc htb he [(0, 21, 24, 21), (0, 21, 28, 13)] (0, 21, 32, 27) [] rfl ⟨⟨by decide, 3, zcl_3, by decide⟩, ⟨⟨by decide, 1, zcl_1, by decide⟩, trivial⟩⟩ (by decide) (by decide) zcl_4 zca_4 (rfl : _ = 32) (fun q9 => (z_astoreR (q := 34) (L' := [(6, va_rf (some q9)), (0, va_rf x0), (1, .int x1), (2, .int x2), (3, .int x3), (4, .int x4), (5, va_rf x5)]) hC dL_join_32 rfl (Nat.le_of_ble_eq_true rfl) 5 rfl rfl rfl (z_iconst (q := 35) (v := 3) hC dL_join_34 rfl ic_3 (V.vx (z_iret hC hr rfl (by omega) (by omega) dL_join_35 hf)))))) (fun _ hf => hf.elim)))) (fun v2 h3 hf => (z_if_eq (tgt := 19) (q := 15) hC dL_join_12 rfl rfl hf (fun _ hf => (z_lconst (q := 20) (v := 0) hC dL_join_19 rfl rfl (V.sub [] rfl (m_L_join_B20 hC hr htb hNc (by omega) (by omega) hf)))) (fun _ hf => (z_lconst (q := 16) (v := 1) hC dL_join_15 rfl rfl (z_goto (tgt := 20) hC dL_join_16 rfl (V.sub [] rfl (m_L_join_B20 hC hr htb hNc (by omega) (by omega) hf)))))))))))))))
theorem m_L_join (Z : zT) (l : Launch) (htr : l.stackTraces = false) (x0 : Option Nat) (x1 : Int32) (x2 : Int32) (x3 : Int32) (x4 : Int32) (x5 : Option Nat) : zHi Z l yL_join cL_join 7 hh_L_join 9 3 18 159 [va_rf x0, .int x1, .int x2, .int x3, .int x4, va_rf x5] (f_L_join Z.2.2 x0 x1 x2 x3 x4 x5) := by
  intro h K
  refine vx_ofWH (cc := cL_join) (maxL := 7) (ret := some .int) (hh := hh_L_join) (by decide) rfl ?_
  intro p e s m args below meth c s₁ B hml hv
  obtain ⟨rfl, hw, hNc, hf⟩ := hv
  exact V.entry (X := (p, l, e, _, s, m, _, below, meth, c)) (m_L_join_e (z_cxH B hml htr hw) B.returns (vx_table (x := yL_join) B (zq_at hw.1 mi_L_join.1 _)) hNc (Nat.le_of_ble_eq_true rfl) (Nat.le_of_ble_eq_true rfl) hf) hw.2.2.1 (by simp [lv_args, va_rf_cat, z_ci, z_cj, z_cf, z_cd]) (by simp [lg_sl, va_rf_cat, z_ci, z_cj, z_cf, z_cd])
def f_L_blind_B18 (g : Nat → Nat) (s0 : Option Nat) (s1 : Int32) (s2 : Int64) (h : AH) (Xf : Nat → AH → Prop) (K : Int32 → AH → Prop) : Prop :=
  stJ h s0 s1 s2 fun h1 => K 0 h1
def f_L_blind (g : Nat → Nat) (x0 : Option Nat) (x1 : Int32) (x2 : Int32) (x3 : Int32) (x4 : Option Nat) (h : AH) (Xf : Nat → AH → Prop) (K : Int32 → AH → Prop) : Prop :=
  cast h x0 7 (f_X6_blind g x0 x1 x2 x3 h (fun e h9 => if e = 3 then (K 1 h9) else (if e = 4 then (K 2 h9) else (False))) (fun v2 h3 => if v2 = 0 then (f_L_blind_B18 g x4 0 (0 : Int64) h3 Xf K) else (f_L_blind_B18 g x4 0 (1 : Int64) h3 Xf K)))
theorem m_L_blind_B18 {Z : zT} {X : zX} (hC : Cx Z X RL cL_blind 6 9 2 12 157) (hr : X.2.2.2.2.2.2.2.2.1.sig.returnType = some .int) (htb : (zc X).exceptionTable.toList = tableOf hh_L_blind) (hNc : zNc (zs X))  {s0 : Option Nat} {s1 : Int32} {s2 : Int64} {h : AH} {Xf : Nat → AH → Prop} {K : Int32 → AH → Prop} {cells slots : Nat} (hc : cells + 0 ≤ 2) (hs : slots + 0 ≤ 12) (hf : f_L_blind_B18 Z.2.2 s0 s1 s2 h Xf K) : V Z X (zEx Z X (zQi Z K) Xf 2 12) 6 h [] cells slots 18 [.long s2, .int s1, va_rf s0] := by
  unfold f_L_blind_B18 at hf
  exact (z_last (q := 19) hC dL_blind_18 rfl hf fun h1 hf => (z_goto (tgt := 30) hC dL_blind_19 rfl (z_iconst (q := 31) (v := 0) hC dL_blind_30 rfl ic_0 (V.vx (z_iret hC hr rfl (by omega) (by omega) dL_blind_31 hf)))))
theorem m_L_blind_e {Z : zT} {X : zX} (hC : Cx Z X RL cL_blind 6 9 2 12 157) (hr : X.2.2.2.2.2.2.2.2.1.sig.returnType = some .int) (htb : (zc X).exceptionTable.toList = tableOf hh_L_blind) (hNc : zNc (zs X)) {x0 : Option Nat} {x1 : Int32} {x2 : Int32} {x3 : Int32} {x4 : Option Nat} {h : AH} {Xf : Nat → AH → Prop} {K : Int32 → AH → Prop} {cells slots : Nat} (hc : cells + 2 ≤ 2) (hs : slots + 12 ≤ 12) (hf : f_L_blind Z.2.2 x0 x1 x2 x3 x4 h Xf K) : V Z X (zEx Z X (zQi Z K) Xf 2 12) 6 h [(0, va_rf x0), (1, .int x1), (2, .int x2), (3, .int x3), (4, va_rf x4)] cells slots 0 [] := by
  unfold f_L_blind at hf
  exact (z_aload (q := 2) hC dL_blind_0 rfl 4 rfl (z_iconst (q := 3) (v := 0) hC dL_blind_2 rfl ic_0 (z_aload_n (q := 4) hC dL_blind_3 rfl 0 rfl (z_iload_n (q := 5) hC dL_blind_4 rfl 1 rfl (z_iload_n (q := 6) hC dL_blind_5 rfl 2 rfl (z_iload_n (q := 7) hC dL_blind_6 rfl 3 rfl (z_callTi (q := 10) (As := [.int x1, .int x2, .int x3]) hC mi_X6_blind ⟨q_501, q_502⟩ q_503 zct_6 (F := f_X6_blind Z.2.2 x0 x1 x2 x3) (m_X6_blind Z X.2.1 hC.2.2.2.2.2.2.2.2.2.1 x0 x1 x2 x3) (Nat.le_of_ble_eq_true rfl) (Nat.le_of_ble_eq_true rfl) rfl (by simp [va_rf_cat, z_ci, z_cj, z_cf, z_cd]) (by omega) (by omega) dL_blind_7 rfl (BX := fun e h9 => if e = 3 then (K 1 h9) else (if e = 4 then (K 2 h9) else (False))) hf rfl (fun e h9 hf => z_ite hf (fun he hf => z_catch hC hNc htb he [] (0, 19, 22, 21) [(0, 19, 26, 27)] rfl trivial (by decide) (by decide) zcl_3 zca_3 (rfl : _ = 22) (fun q9 => (z_astoreR (q := 24) (L' := [(5, va_rf (some q9)), (0, va_rf x0), (1, .int x1), (2, .int x2), (3, .int x3), (4, va_rf x4)]) hC dL_blind_22 rfl (Nat.le_of_ble_eq_true rfl) 4 rfl rfl rfl (z_iconst (q := 25) (v := 1) hC dL_blind_24 rfl ic_1 (V.vx (z_iret hC hr rfl (by omega) (by omega) dL_blind_25 hf)))))) (fun _ hf => z_ite hf (fun he hf => z_catch hC hNc htb he [(0, 19, 22, 21)] (0, 19, 26, 27) [] rfl ⟨⟨by decide, 3, zcl_3, by decide⟩, trivial⟩ (by decide) (by decide) zcl_4 zca_4 (rfl : _ = 26) (fun q9 => (z_astoreR (q := 28) (L' := [(5, va_rf (some q9)), (0, va_rf x0), (1, .int x1), (2, .int x2), (3, .int x3), (4, va_rf x4)]) hC dL_blind_26 rfl (Nat.le_of_ble_eq_true rfl) 4 rfl rfl rfl (z_iconst (q := 29) (v := 2) hC dL_blind_28 rfl ic_2 (V.vx (z_iret hC hr rfl (by omega) (by omega) dL_blind_29 hf)))))) (fun _ hf => hf.elim))) (fun v2 h3 hf => (z_if_eq (tgt := 17) (q := 13) hC dL_blind_10 rfl rfl hf (fun _ hf => (z_lconst (q := 18) (v := 0) hC dL_blind_17 rfl rfl (V.sub [] rfl (m_L_blind_B18 hC hr htb hNc (by omega) (by omega) hf)))) (fun _ hf => (z_lconst (q := 14) (v := 1) hC dL_blind_13 rfl rfl (z_goto (tgt := 18) hC dL_blind_14 rfl (V.sub [] rfl (m_L_blind_B18 hC hr htb hNc (by omega) (by omega) hf))))))))))))))
theorem m_L_blind (Z : zT) (l : Launch) (htr : l.stackTraces = false) (x0 : Option Nat) (x1 : Int32) (x2 : Int32) (x3 : Int32) (x4 : Option Nat) : zHi Z l yL_blind cL_blind 6 hh_L_blind 9 2 12 157 [va_rf x0, .int x1, .int x2, .int x3, va_rf x4] (f_L_blind Z.2.2 x0 x1 x2 x3 x4) := by
  intro h K
  refine vx_ofWH (cc := cL_blind) (maxL := 6) (ret := some .int) (hh := hh_L_blind) (by decide) rfl ?_
  intro p e s m args below meth c s₁ B hml hv
  obtain ⟨rfl, hw, hNc, hf⟩ := hv
  exact V.entry (X := (p, l, e, _, s, m, _, below, meth, c)) (m_L_blind_e (z_cxH B hml htr hw) B.returns (vx_table (x := yL_blind) B (zq_at hw.1 mi_L_blind.1 _)) hNc (Nat.le_of_ble_eq_true rfl) (Nat.le_of_ble_eq_true rfl) hf) hw.2.2.1 (by simp [lv_args, va_rf_cat, z_ci, z_cj, z_cf, z_cd]) (by simp [lg_sl, va_rf_cat, z_ci, z_cj, z_cf, z_cd])
def f_L_addCircuit (g : Nat → Nat) (x0 : Option Nat) (x1 : Int32) (x2 : Option Nat) (h : AH) (Xf : Nat → AH → Prop) (K : Int32 → AH → Prop) : Prop :=
  cast h x0 7 (f_X6_addCircuit g x0 x1 h (fun e h9 => if e = 1 then (K 1 h9) else (if e = 2 then (K 2 h9) else (False))) (fun v1 h2 => stJ h2 x2 0 (v1.toInt64) fun h3 => K 0 h3))
theorem m_L_addCircuit_e {Z : zT} {X : zX} (hC : Cx Z X RL cL_addCircuit 4 7 1 6 111) (hr : X.2.2.2.2.2.2.2.2.1.sig.returnType = some .int) (htb : (zc X).exceptionTable.toList = tableOf hh_L_addCircuit) (hNc : zNc (zs X)) {x0 : Option Nat} {x1 : Int32} {x2 : Option Nat} {h : AH} {Xf : Nat → AH → Prop} {K : Int32 → AH → Prop} {cells slots : Nat} (hc : cells + 1 ≤ 1) (hs : slots + 6 ≤ 6) (hf : f_L_addCircuit Z.2.2 x0 x1 x2 h Xf K) : V Z X (zEx Z X (zQi Z K) Xf 1 6) 4 h [(0, va_rf x0), (1, .int x1), (2, va_rf x2)] cells slots 0 [] := by
  unfold f_L_addCircuit at hf
  exact (z_aload_n (q := 1) hC dL_addCircuit_0 rfl 2 rfl (z_iconst (q := 2) (v := 0) hC dL_addCircuit_1 rfl ic_0 (z_aload_n (q := 3) hC dL_addCircuit_2 rfl 0 rfl (z_iload_n (q := 4) hC dL_addCircuit_3 rfl 1 rfl (z_callTi (q := 7) (As := [.int x1]) hC mi_X6_addCircuit ⟨q_504, q_505⟩ q_506 zct_6 (F := f_X6_addCircuit Z.2.2 x0 x1) (m_X6_addCircuit Z X.2.1 hC.2.2.2.2.2.2.2.2.2.1 x0 x1) (Nat.le_of_ble_eq_true rfl) (Nat.le_of_ble_eq_true rfl) rfl (by simp [va_rf_cat, z_ci, z_cj, z_cf, z_cd]) (by omega) (by omega) dL_addCircuit_4 rfl (BX := fun e h9 => if e = 1 then (K 1 h9) else (if e = 2 then (K 2 h9) else (False))) hf rfl (fun e h9 hf => z_ite hf (fun he hf => z_catch hC hNc htb he [] (0, 9, 12, 13) [(0, 9, 15, 15)] rfl trivial (by decide) (by decide) zcl_1 zca_1 (rfl : _ = 12) (fun q9 => (z_astoreR_n (q := 13) (L' := [(3, va_rf (some q9)), (0, va_rf x0), (1, .int x1), (2, va_rf x2)]) hC dL_addCircuit_12 rfl rfl (Nat.le_of_ble_eq_true rfl) 2 rfl rfl rfl (z_iconst (q := 14) (v := 1) hC dL_addCircuit_13 rfl ic_1 (V.vx (z_iret hC hr rfl (by omega) (by omega) dL_addCircuit_14 hf)))))) (fun _ hf => z_ite hf (fun he hf => z_catch hC hNc htb he [(0, 9, 12, 13)] (0, 9, 15, 15) [] rfl ⟨⟨by decide, 1, zcl_1, by decide⟩, trivial⟩ (by decide) (by decide) zcl_2 zca_2 (rfl : _ = 15) (fun q9 => (z_astoreR_n (q := 16) (L' := [(3, va_rf (some q9)), (0, va_rf x0), (1, .int x1), (2, va_rf x2)]) hC dL_addCircuit_15 rfl rfl (Nat.le_of_ble_eq_true rfl) 2 rfl rfl rfl (z_iconst (q := 17) (v := 2) hC dL_addCircuit_16 rfl ic_2 (V.vx (z_iret hC hr rfl (by omega) (by omega) dL_addCircuit_17 hf)))))) (fun _ hf => hf.elim))) (fun v1 h2 hf => (z_i2l (q := 8) hC dL_addCircuit_7 rfl (z_last (q := 9) hC dL_addCircuit_8 rfl hf fun h3 hf => (z_goto (tgt := 18) hC dL_addCircuit_9 rfl (z_iconst (q := 19) (v := 0) hC dL_addCircuit_18 rfl ic_0 (V.vx (z_iret hC hr rfl (by omega) (by omega) dL_addCircuit_19 hf))))))))))))
theorem m_L_addCircuit (Z : zT) (l : Launch) (htr : l.stackTraces = false) (x0 : Option Nat) (x1 : Int32) (x2 : Option Nat) : zHi Z l yL_addCircuit cL_addCircuit 4 hh_L_addCircuit 7 1 6 111 [va_rf x0, .int x1, va_rf x2] (f_L_addCircuit Z.2.2 x0 x1 x2) := by
  intro h K
  refine vx_ofWH (cc := cL_addCircuit) (maxL := 4) (ret := some .int) (hh := hh_L_addCircuit) (by decide) rfl ?_
  intro p e s m args below meth c s₁ B hml hv
  obtain ⟨rfl, hw, hNc, hf⟩ := hv
  exact V.entry (X := (p, l, e, _, s, m, _, below, meth, c)) (m_L_addCircuit_e (z_cxH B hml htr hw) B.returns (vx_table (x := yL_addCircuit) B (zq_at hw.1 mi_L_addCircuit.1 _)) hNc (Nat.le_of_ble_eq_true rfl) (Nat.le_of_ble_eq_true rfl) hf) hw.2.2.1 (by simp [lv_args, va_rf_cat, z_ci, z_cj, z_cf, z_cd]) (by simp [lg_sl, va_rf_cat, z_ci, z_cj, z_cf, z_cd])
def f_L_open (g : Nat → Nat) (x0 : Option Nat) (x1 : Int32) (x2 : Option Nat) (h : AH) (Xf : Nat → AH → Prop) (K : Int32 → AH → Prop) : Prop :=
  cast h x0 7 (f_X6_open g x0 x1 h (fun e h9 => if e = 3 then (K 1 h9) else (False)) (fun v1 h2 => stJ h2 x2 0 (v1.toInt64) fun h3 => K 0 h3))
theorem m_L_open_e {Z : zT} {X : zX} (hC : Cx Z X RL cL_open 4 8 1 6 132) (hr : X.2.2.2.2.2.2.2.2.1.sig.returnType = some .int) (htb : (zc X).exceptionTable.toList = tableOf hh_L_open) (hNc : zNc (zs X)) {x0 : Option Nat} {x1 : Int32} {x2 : Option Nat} {h : AH} {Xf : Nat → AH → Prop} {K : Int32 → AH → Prop} {cells slots : Nat} (hc : cells + 1 ≤ 1) (hs : slots + 6 ≤ 6) (hf : f_L_open Z.2.2 x0 x1 x2 h Xf K) : V Z X (zEx Z X (zQi Z K) Xf 1 6) 4 h [(0, va_rf x0), (1, .int x1), (2, va_rf x2)] cells slots 0 [] := by
  unfold f_L_open at hf
  exact (z_aload_n (q := 1) hC dL_open_0 rfl 2 rfl (z_iconst (q := 2) (v := 0) hC dL_open_1 rfl ic_0 (z_aload_n (q := 3) hC dL_open_2 rfl 0 rfl (z_iload_n (q := 4) hC dL_open_3 rfl 1 rfl (z_callTi (q := 7) (As := [.int x1]) hC mi_X6_open ⟨q_507, q_508⟩ q_509 zct_6 (F := f_X6_open Z.2.2 x0 x1) (m_X6_open Z X.2.1 hC.2.2.2.2.2.2.2.2.2.1 x0 x1) (Nat.le_of_ble_eq_true rfl) (Nat.le_of_ble_eq_true rfl) rfl (by simp [va_rf_cat, z_ci, z_cj, z_cf, z_cd]) (by omega) (by omega) dL_open_4 rfl (BX := fun e h9 => if e = 3 then (K 1 h9) else (False)) hf rfl (fun e h9 hf => z_ite hf (fun he hf => z_catch hC hNc htb he [] (0, 9, 12, 21) [] rfl trivial (by decide) (by decide) zcl_3 zca_3 (rfl : _ = 12) (fun q9 => (z_astoreR_n (q := 13) (L' := [(3, va_rf (some q9)), (0, va_rf x0), (1, .int x1), (2, va_rf x2)]) hC dL_open_12 rfl rfl (Nat.le_of_ble_eq_true rfl) 2 rfl rfl rfl (z_iconst (q := 14) (v := 1) hC dL_open_13 rfl ic_1 (V.vx (z_iret hC hr rfl (by omega) (by omega) dL_open_14 hf)))))) (fun _ hf => hf.elim)) (fun v1 h2 hf => (z_i2l (q := 8) hC dL_open_7 rfl (z_last (q := 9) hC dL_open_8 rfl hf fun h3 hf => (z_goto (tgt := 15) hC dL_open_9 rfl (z_iconst (q := 16) (v := 0) hC dL_open_15 rfl ic_0 (V.vx (z_iret hC hr rfl (by omega) (by omega) dL_open_16 hf))))))))))))
theorem m_L_open (Z : zT) (l : Launch) (htr : l.stackTraces = false) (x0 : Option Nat) (x1 : Int32) (x2 : Option Nat) : zHi Z l yL_open cL_open 4 hh_L_open 8 1 6 132 [va_rf x0, .int x1, va_rf x2] (f_L_open Z.2.2 x0 x1 x2) := by
  intro h K
  refine vx_ofWH (cc := cL_open) (maxL := 4) (ret := some .int) (hh := hh_L_open) (by decide) rfl ?_
  intro p e s m args below meth c s₁ B hml hv
  obtain ⟨rfl, hw, hNc, hf⟩ := hv
  exact V.entry (X := (p, l, e, _, s, m, _, below, meth, c)) (m_L_open_e (z_cxH B hml htr hw) B.returns (vx_table (x := yL_open) B (zq_at hw.1 mi_L_open.1 _)) hNc (Nat.le_of_ble_eq_true rfl) (Nat.le_of_ble_eq_true rfl) hf) hw.2.2.1 (by simp [lv_args, va_rf_cat, z_ci, z_cj, z_cf, z_cd]) (by simp [lg_sl, va_rf_cat, z_ci, z_cj, z_cf, z_cd])
def f_L_canTest_B15 (g : Nat → Nat) (s0 : Option Nat) (s1 : Int32) (s2 : Int64) (h : AH) (Xf : Nat → AH → Prop) (K : Int32 → AH → Prop) : Prop :=
  stJ h s0 s1 s2 fun h1 => K 0 h1
def f_L_canTest (g : Nat → Nat) (x0 : Option Nat) (x1 : Int32) (x2 : Option Nat) (h : AH) (Xf : Nat → AH → Prop) (K : Int32 → AH → Prop) : Prop :=
  cast h x0 7 (f_X6_canTest g x0 x1 h (fun e h9 => if e = 3 then (K 1 h9) else (False)) (fun v2 h3 => if v2 = 0 then (f_L_canTest_B15 g x2 0 (0 : Int64) h3 Xf K) else (f_L_canTest_B15 g x2 0 (1 : Int64) h3 Xf K)))
theorem m_L_canTest_B15 {Z : zT} {X : zX} (hC : Cx Z X RL cL_canTest 4 8 1 6 132) (hr : X.2.2.2.2.2.2.2.2.1.sig.returnType = some .int) (htb : (zc X).exceptionTable.toList = tableOf hh_L_canTest) (hNc : zNc (zs X))  {s0 : Option Nat} {s1 : Int32} {s2 : Int64} {h : AH} {Xf : Nat → AH → Prop} {K : Int32 → AH → Prop} {cells slots : Nat} (hc : cells + 0 ≤ 1) (hs : slots + 0 ≤ 6) (hf : f_L_canTest_B15 Z.2.2 s0 s1 s2 h Xf K) : V Z X (zEx Z X (zQi Z K) Xf 1 6) 4 h [] cells slots 15 [.long s2, .int s1, va_rf s0] := by
  unfold f_L_canTest_B15 at hf
  exact (z_last (q := 16) hC dL_canTest_15 rfl hf fun h1 hf => (z_goto (tgt := 22) hC dL_canTest_16 rfl (z_iconst (q := 23) (v := 0) hC dL_canTest_22 rfl ic_0 (V.vx (z_iret hC hr rfl (by omega) (by omega) dL_canTest_23 hf)))))
theorem m_L_canTest_e {Z : zT} {X : zX} (hC : Cx Z X RL cL_canTest 4 8 1 6 132) (hr : X.2.2.2.2.2.2.2.2.1.sig.returnType = some .int) (htb : (zc X).exceptionTable.toList = tableOf hh_L_canTest) (hNc : zNc (zs X)) {x0 : Option Nat} {x1 : Int32} {x2 : Option Nat} {h : AH} {Xf : Nat → AH → Prop} {K : Int32 → AH → Prop} {cells slots : Nat} (hc : cells + 1 ≤ 1) (hs : slots + 6 ≤ 6) (hf : f_L_canTest Z.2.2 x0 x1 x2 h Xf K) : V Z X (zEx Z X (zQi Z K) Xf 1 6) 4 h [(0, va_rf x0), (1, .int x1), (2, va_rf x2)] cells slots 0 [] := by
  unfold f_L_canTest at hf
  exact (z_aload_n (q := 1) hC dL_canTest_0 rfl 2 rfl (z_iconst (q := 2) (v := 0) hC dL_canTest_1 rfl ic_0 (z_aload_n (q := 3) hC dL_canTest_2 rfl 0 rfl (z_iload_n (q := 4) hC dL_canTest_3 rfl 1 rfl (z_callTi (q := 7) (As := [.int x1]) hC mi_X6_canTest ⟨q_510, q_511⟩ q_512 zct_6 (F := f_X6_canTest Z.2.2 x0 x1) (m_X6_canTest Z X.2.1 hC.2.2.2.2.2.2.2.2.2.1 x0 x1) (Nat.le_of_ble_eq_true rfl) (Nat.le_of_ble_eq_true rfl) rfl (by simp [va_rf_cat, z_ci, z_cj, z_cf, z_cd]) (by omega) (by omega) dL_canTest_4 rfl (BX := fun e h9 => if e = 3 then (K 1 h9) else (False)) hf rfl (fun e h9 hf => z_ite hf (fun he hf => z_catch hC hNc htb he [] (0, 16, 19, 21) [] rfl trivial (by decide) (by decide) zcl_3 zca_3 (rfl : _ = 19) (fun q9 => (z_astoreR_n (q := 20) (L' := [(3, va_rf (some q9)), (0, va_rf x0), (1, .int x1), (2, va_rf x2)]) hC dL_canTest_19 rfl rfl (Nat.le_of_ble_eq_true rfl) 2 rfl rfl rfl (z_iconst (q := 21) (v := 1) hC dL_canTest_20 rfl ic_1 (V.vx (z_iret hC hr rfl (by omega) (by omega) dL_canTest_21 hf)))))) (fun _ hf => hf.elim)) (fun v2 h3 hf => (z_if_eq (tgt := 14) (q := 10) hC dL_canTest_7 rfl rfl hf (fun _ hf => (z_lconst (q := 15) (v := 0) hC dL_canTest_14 rfl rfl (V.sub [] rfl (m_L_canTest_B15 hC hr htb hNc (by omega) (by omega) hf)))) (fun _ hf => (z_lconst (q := 11) (v := 1) hC dL_canTest_10 rfl rfl (z_goto (tgt := 15) hC dL_canTest_11 rfl (V.sub [] rfl (m_L_canTest_B15 hC hr htb hNc (by omega) (by omega) hf))))))))))))
theorem m_L_canTest (Z : zT) (l : Launch) (htr : l.stackTraces = false) (x0 : Option Nat) (x1 : Int32) (x2 : Option Nat) : zHi Z l yL_canTest cL_canTest 4 hh_L_canTest 8 1 6 132 [va_rf x0, .int x1, va_rf x2] (f_L_canTest Z.2.2 x0 x1 x2) := by
  intro h K
  refine vx_ofWH (cc := cL_canTest) (maxL := 4) (ret := some .int) (hh := hh_L_canTest) (by decide) rfl ?_
  intro p e s m args below meth c s₁ B hml hv
  obtain ⟨rfl, hw, hNc, hf⟩ := hv
  exact V.entry (X := (p, l, e, _, s, m, _, below, meth, c)) (m_L_canTest_e (z_cxH B hml htr hw) B.returns (vx_table (x := yL_canTest) B (zq_at hw.1 mi_L_canTest.1 _)) hNc (Nat.le_of_ble_eq_true rfl) (Nat.le_of_ble_eq_true rfl) hf) hw.2.2.1 (by simp [lv_args, va_rf_cat, z_ci, z_cj, z_cf, z_cd]) (by simp [lg_sl, va_rf_cat, z_ci, z_cj, z_cf, z_cd])
def f_L_testAll (g : Nat → Nat) (x0 : Option Nat) (x1 : Int32) (x2 : Option Nat) (h : AH) (Xf : Nat → AH → Prop) (K : Int32 → AH → Prop) : Prop :=
  cast h x0 7 (f_X6_testAll g x0 x1 h (fun e h9 => if e = 3 then (K 1 h9) else (if e = 4 then (K 2 h9) else (False))) (fun v1 h2 => stJ h2 x2 0 (v1.toInt64) fun h3 => K 0 h3))
theorem m_L_testAll_e {Z : zT} {X : zX} (hC : Cx Z X RL cL_testAll 4 8 2 12 135) (hr : X.2.2.2.2.2.2.2.2.1.sig.returnType = some .int) (htb : (zc X).exceptionTable.toList = tableOf hh_L_testAll) (hNc : zNc (zs X)) {x0 : Option Nat} {x1 : Int32} {x2 : Option Nat} {h : AH} {Xf : Nat → AH → Prop} {K : Int32 → AH → Prop} {cells slots : Nat} (hc : cells + 2 ≤ 2) (hs : slots + 12 ≤ 12) (hf : f_L_testAll Z.2.2 x0 x1 x2 h Xf K) : V Z X (zEx Z X (zQi Z K) Xf 2 12) 4 h [(0, va_rf x0), (1, .int x1), (2, va_rf x2)] cells slots 0 [] := by
  unfold f_L_testAll at hf
  exact (z_aload_n (q := 1) hC dL_testAll_0 rfl 2 rfl (z_iconst (q := 2) (v := 0) hC dL_testAll_1 rfl ic_0 (z_aload_n (q := 3) hC dL_testAll_2 rfl 0 rfl (z_iload_n (q := 4) hC dL_testAll_3 rfl 1 rfl (z_callTi (q := 7) (As := [.int x1]) hC mi_X6_testAll ⟨q_513, q_514⟩ q_515 zct_6 (F := f_X6_testAll Z.2.2 x0 x1) (m_X6_testAll Z X.2.1 hC.2.2.2.2.2.2.2.2.2.1 x0 x1) (Nat.le_of_ble_eq_true rfl) (Nat.le_of_ble_eq_true rfl) rfl (by simp [va_rf_cat, z_ci, z_cj, z_cf, z_cd]) (by omega) (by omega) dL_testAll_4 rfl (BX := fun e h9 => if e = 3 then (K 1 h9) else (if e = 4 then (K 2 h9) else (False))) hf rfl (fun e h9 hf => z_ite hf (fun he hf => z_catch hC hNc htb he [] (0, 9, 12, 21) [(0, 9, 15, 27)] rfl trivial (by decide) (by decide) zcl_3 zca_3 (rfl : _ = 12) (fun q9 => (z_astoreR_n (q := 13) (L' := [(3, va_rf (some q9)), (0, va_rf x0), (1, .int x1), (2, va_rf x2)]) hC dL_testAll_12 rfl rfl (Nat.le_of_ble_eq_true rfl) 2 rfl rfl rfl (z_iconst (q := 14) (v := 1) hC dL_testAll_13 rfl ic_1 (V.vx (z_iret hC hr rfl (by omega) (by omega) dL_testAll_14 hf)))))) (fun _ hf => z_ite hf (fun he hf => z_catch hC hNc htb he [(0, 9, 12, 21)] (0, 9, 15, 27) [] rfl ⟨⟨by decide, 3, zcl_3, by decide⟩, trivial⟩ (by decide) (by decide) zcl_4 zca_4 (rfl : _ = 15) (fun q9 => (z_astoreR_n (q := 16) (L' := [(3, va_rf (some q9)), (0, va_rf x0), (1, .int x1), (2, va_rf x2)]) hC dL_testAll_15 rfl rfl (Nat.le_of_ble_eq_true rfl) 2 rfl rfl rfl (z_iconst (q := 17) (v := 2) hC dL_testAll_16 rfl ic_2 (V.vx (z_iret hC hr rfl (by omega) (by omega) dL_testAll_17 hf)))))) (fun _ hf => hf.elim))) (fun v1 h2 hf => (z_i2l (q := 8) hC dL_testAll_7 rfl (z_last (q := 9) hC dL_testAll_8 rfl hf fun h3 hf => (z_goto (tgt := 18) hC dL_testAll_9 rfl (z_iconst (q := 19) (v := 0) hC dL_testAll_18 rfl ic_0 (V.vx (z_iret hC hr rfl (by omega) (by omega) dL_testAll_19 hf))))))))))))
theorem m_L_testAll (Z : zT) (l : Launch) (htr : l.stackTraces = false) (x0 : Option Nat) (x1 : Int32) (x2 : Option Nat) : zHi Z l yL_testAll cL_testAll 4 hh_L_testAll 8 2 12 135 [va_rf x0, .int x1, va_rf x2] (f_L_testAll Z.2.2 x0 x1 x2) := by
  intro h K
  refine vx_ofWH (cc := cL_testAll) (maxL := 4) (ret := some .int) (hh := hh_L_testAll) (by decide) rfl ?_
  intro p e s m args below meth c s₁ B hml hv
  obtain ⟨rfl, hw, hNc, hf⟩ := hv
  exact V.entry (X := (p, l, e, _, s, m, _, below, meth, c)) (m_L_testAll_e (z_cxH B hml htr hw) B.returns (vx_table (x := yL_testAll) B (zq_at hw.1 mi_L_testAll.1 _)) hNc (Nat.le_of_ble_eq_true rfl) (Nat.le_of_ble_eq_true rfl) hf) hw.2.2.1 (by simp [lv_args, va_rf_cat, z_ci, z_cj, z_cf, z_cd]) (by simp [lg_sl, va_rf_cat, z_ci, z_cj, z_cf, z_cd])
def f_L_isTested_B15 (g : Nat → Nat) (s0 : Option Nat) (s1 : Int32) (s2 : Int64) (h : AH) (Xf : Nat → AH → Prop) (K : Int32 → AH → Prop) : Prop :=
  stJ h s0 s1 s2 fun h1 => K 0 h1
def f_L_isTested (g : Nat → Nat) (x0 : Option Nat) (x1 : Int32) (x2 : Option Nat) (h : AH) (Xf : Nat → AH → Prop) (K : Int32 → AH → Prop) : Prop :=
  cast h x0 7 (f_X6_isTested g x0 x1 h (fun e h9 => if e = 3 then (K 1 h9) else (False)) (fun v2 h3 => if v2 = 0 then (f_L_isTested_B15 g x2 0 (0 : Int64) h3 Xf K) else (f_L_isTested_B15 g x2 0 (1 : Int64) h3 Xf K)))
theorem m_L_isTested_B15 {Z : zT} {X : zX} (hC : Cx Z X RL cL_isTested 4 9 1 6 153) (hr : X.2.2.2.2.2.2.2.2.1.sig.returnType = some .int) (htb : (zc X).exceptionTable.toList = tableOf hh_L_isTested) (hNc : zNc (zs X))  {s0 : Option Nat} {s1 : Int32} {s2 : Int64} {h : AH} {Xf : Nat → AH → Prop} {K : Int32 → AH → Prop} {cells slots : Nat} (hc : cells + 0 ≤ 1) (hs : slots + 0 ≤ 6) (hf : f_L_isTested_B15 Z.2.2 s0 s1 s2 h Xf K) : V Z X (zEx Z X (zQi Z K) Xf 1 6) 4 h [] cells slots 15 [.long s2, .int s1, va_rf s0] := by
  unfold f_L_isTested_B15 at hf
  exact (z_last (q := 16) hC dL_isTested_15 rfl hf fun h1 hf => (z_goto (tgt := 22) hC dL_isTested_16 rfl (z_iconst (q := 23) (v := 0) hC dL_isTested_22 rfl ic_0 (V.vx (z_iret hC hr rfl (by omega) (by omega) dL_isTested_23 hf)))))
theorem m_L_isTested_e {Z : zT} {X : zX} (hC : Cx Z X RL cL_isTested 4 9 1 6 153) (hr : X.2.2.2.2.2.2.2.2.1.sig.returnType = some .int) (htb : (zc X).exceptionTable.toList = tableOf hh_L_isTested) (hNc : zNc (zs X)) {x0 : Option Nat} {x1 : Int32} {x2 : Option Nat} {h : AH} {Xf : Nat → AH → Prop} {K : Int32 → AH → Prop} {cells slots : Nat} (hc : cells + 1 ≤ 1) (hs : slots + 6 ≤ 6) (hf : f_L_isTested Z.2.2 x0 x1 x2 h Xf K) : V Z X (zEx Z X (zQi Z K) Xf 1 6) 4 h [(0, va_rf x0), (1, .int x1), (2, va_rf x2)] cells slots 0 [] := by
  unfold f_L_isTested at hf
  exact (z_aload_n (q := 1) hC dL_isTested_0 rfl 2 rfl (z_iconst (q := 2) (v := 0) hC dL_isTested_1 rfl ic_0 (z_aload_n (q := 3) hC dL_isTested_2 rfl 0 rfl (z_iload_n (q := 4) hC dL_isTested_3 rfl 1 rfl (z_callTi (q := 7) (As := [.int x1]) hC mi_X6_isTested ⟨q_516, q_517⟩ q_518 zct_6 (F := f_X6_isTested Z.2.2 x0 x1) (m_X6_isTested Z X.2.1 hC.2.2.2.2.2.2.2.2.2.1 x0 x1) (Nat.le_of_ble_eq_true rfl) (Nat.le_of_ble_eq_true rfl) rfl (by simp [va_rf_cat, z_ci, z_cj, z_cf, z_cd]) (by omega) (by omega) dL_isTested_4 rfl (BX := fun e h9 => if e = 3 then (K 1 h9) else (False)) hf rfl (fun e h9 hf => z_ite hf (fun he hf => z_catch hC hNc htb he [] (0, 16, 19, 21) [] rfl trivial (by decide) (by decide) zcl_3 zca_3 (rfl : _ = 19) (fun q9 => (z_astoreR_n (q := 20) (L' := [(3, va_rf (some q9)), (0, va_rf x0), (1, .int x1), (2, va_rf x2)]) hC dL_isTested_19 rfl rfl (Nat.le_of_ble_eq_true rfl) 2 rfl rfl rfl (z_iconst (q := 21) (v := 1) hC dL_isTested_20 rfl ic_1 (V.vx (z_iret hC hr rfl (by omega) (by omega) dL_isTested_21 hf)))))) (fun _ hf => hf.elim)) (fun v2 h3 hf => (z_if_eq (tgt := 14) (q := 10) hC dL_isTested_7 rfl rfl hf (fun _ hf => (z_lconst (q := 15) (v := 0) hC dL_isTested_14 rfl rfl (V.sub [] rfl (m_L_isTested_B15 hC hr htb hNc (by omega) (by omega) hf)))) (fun _ hf => (z_lconst (q := 11) (v := 1) hC dL_isTested_10 rfl rfl (z_goto (tgt := 15) hC dL_isTested_11 rfl (V.sub [] rfl (m_L_isTested_B15 hC hr htb hNc (by omega) (by omega) hf))))))))))))
theorem m_L_isTested (Z : zT) (l : Launch) (htr : l.stackTraces = false) (x0 : Option Nat) (x1 : Int32) (x2 : Option Nat) : zHi Z l yL_isTested cL_isTested 4 hh_L_isTested 9 1 6 153 [va_rf x0, .int x1, va_rf x2] (f_L_isTested Z.2.2 x0 x1 x2) := by
  intro h K
  refine vx_ofWH (cc := cL_isTested) (maxL := 4) (ret := some .int) (hh := hh_L_isTested) (by decide) rfl ?_
  intro p e s m args below meth c s₁ B hml hv
  obtain ⟨rfl, hw, hNc, hf⟩ := hv
  exact V.entry (X := (p, l, e, _, s, m, _, below, meth, c)) (m_L_isTested_e (z_cxH B hml htr hw) B.returns (vx_table (x := yL_isTested) B (zq_at hw.1 mi_L_isTested.1 _)) hNc (Nat.le_of_ble_eq_true rfl) (Nat.le_of_ble_eq_true rfl) hf) hw.2.2.1 (by simp [lv_args, va_rf_cat, z_ci, z_cj, z_cf, z_cd]) (by simp [lg_sl, va_rf_cat, z_ci, z_cj, z_cf, z_cd])
def f_L_lack (g : Nat → Nat) (x0 : Option Nat) (x1 : Int32) (x2 : Int32) (x3 : Option Nat) (h : AH) (Xf : Nat → AH → Prop) (K : Int32 → AH → Prop) : Prop :=
  cast h x0 7 (f_X6_lack g x0 x1 x2 h (fun e h9 => if e = 3 then (K 1 h9) else (False)) (fun v1 h2 => stJ h2 x3 0 (v1.toInt64) fun h3 => K 0 h3))
theorem m_L_lack_e {Z : zT} {X : zX} (hC : Cx Z X RL cL_lack 5 9 2 12 155) (hr : X.2.2.2.2.2.2.2.2.1.sig.returnType = some .int) (htb : (zc X).exceptionTable.toList = tableOf hh_L_lack) (hNc : zNc (zs X)) {x0 : Option Nat} {x1 : Int32} {x2 : Int32} {x3 : Option Nat} {h : AH} {Xf : Nat → AH → Prop} {K : Int32 → AH → Prop} {cells slots : Nat} (hc : cells + 2 ≤ 2) (hs : slots + 12 ≤ 12) (hf : f_L_lack Z.2.2 x0 x1 x2 x3 h Xf K) : V Z X (zEx Z X (zQi Z K) Xf 2 12) 5 h [(0, va_rf x0), (1, .int x1), (2, .int x2), (3, va_rf x3)] cells slots 0 [] := by
  unfold f_L_lack at hf
  exact (z_aload_n (q := 1) hC dL_lack_0 rfl 3 rfl (z_iconst (q := 2) (v := 0) hC dL_lack_1 rfl ic_0 (z_aload_n (q := 3) hC dL_lack_2 rfl 0 rfl (z_iload_n (q := 4) hC dL_lack_3 rfl 1 rfl (z_iload_n (q := 5) hC dL_lack_4 rfl 2 rfl (z_callTi (q := 8) (As := [.int x1, .int x2]) hC mi_X6_lack ⟨q_519, q_520⟩ q_521 zct_6 (F := f_X6_lack Z.2.2 x0 x1 x2) (m_X6_lack Z X.2.1 hC.2.2.2.2.2.2.2.2.2.1 x0 x1 x2) (Nat.le_of_ble_eq_true rfl) (Nat.le_of_ble_eq_true rfl) rfl (by simp [va_rf_cat, z_ci, z_cj, z_cf, z_cd]) (by omega) (by omega) dL_lack_5 rfl (BX := fun e h9 => if e = 3 then (K 1 h9) else (False)) hf rfl (fun e h9 hf => z_ite hf (fun he hf => z_catch hC hNc htb he [] (0, 10, 13, 21) [] rfl trivial (by decide) (by decide) zcl_3 zca_3 (rfl : _ = 13) (fun q9 => (z_astoreR (q := 15) (L' := [(4, va_rf (some q9)), (0, va_rf x0), (1, .int x1), (2, .int x2), (3, va_rf x3)]) hC dL_lack_13 rfl (Nat.le_of_ble_eq_true rfl) 3 rfl rfl rfl (z_iconst (q := 16) (v := 1) hC dL_lack_15 rfl ic_1 (V.vx (z_iret hC hr rfl (by omega) (by omega) dL_lack_16 hf)))))) (fun _ hf => hf.elim)) (fun v1 h2 hf => (z_i2l (q := 9) hC dL_lack_8 rfl (z_last (q := 10) hC dL_lack_9 rfl hf fun h3 hf => (z_goto (tgt := 17) hC dL_lack_10 rfl (z_iconst (q := 18) (v := 0) hC dL_lack_17 rfl ic_0 (V.vx (z_iret hC hr rfl (by omega) (by omega) dL_lack_18 hf)))))))))))))
theorem m_L_lack (Z : zT) (l : Launch) (htr : l.stackTraces = false) (x0 : Option Nat) (x1 : Int32) (x2 : Int32) (x3 : Option Nat) : zHi Z l yL_lack cL_lack 5 hh_L_lack 9 2 12 155 [va_rf x0, .int x1, .int x2, va_rf x3] (f_L_lack Z.2.2 x0 x1 x2 x3) := by
  intro h K
  refine vx_ofWH (cc := cL_lack) (maxL := 5) (ret := some .int) (hh := hh_L_lack) (by decide) rfl ?_
  intro p e s m args below meth c s₁ B hml hv
  obtain ⟨rfl, hw, hNc, hf⟩ := hv
  exact V.entry (X := (p, l, e, _, s, m, _, below, meth, c)) (m_L_lack_e (z_cxH B hml htr hw) B.returns (vx_table (x := yL_lack) B (zq_at hw.1 mi_L_lack.1 _)) hNc (Nat.le_of_ble_eq_true rfl) (Nat.le_of_ble_eq_true rfl) hf) hw.2.2.1 (by simp [lv_args, va_rf_cat, z_ci, z_cj, z_cf, z_cd]) (by simp [lg_sl, va_rf_cat, z_ci, z_cj, z_cf, z_cd])
def f_L_lacks (g : Nat → Nat) (x0 : Option Nat) (x1 : Int32) (x2 : Option Nat) (h : AH) (Xf : Nat → AH → Prop) (K : Int32 → AH → Prop) : Prop :=
  cast h x0 7 (f_X6_lacks g x0 x1 h (fun e h9 => if e = 1 then (K 1 h9) else (False)) (fun v1 h2 => stJ h2 x2 0 (v1.toInt64) fun h3 => K 0 h3))
theorem m_L_lacks_e {Z : zT} {X : zX} (hC : Cx Z X RL cL_lacks 4 7 1 6 114) (hr : X.2.2.2.2.2.2.2.2.1.sig.returnType = some .int) (htb : (zc X).exceptionTable.toList = tableOf hh_L_lacks) (hNc : zNc (zs X)) {x0 : Option Nat} {x1 : Int32} {x2 : Option Nat} {h : AH} {Xf : Nat → AH → Prop} {K : Int32 → AH → Prop} {cells slots : Nat} (hc : cells + 1 ≤ 1) (hs : slots + 6 ≤ 6) (hf : f_L_lacks Z.2.2 x0 x1 x2 h Xf K) : V Z X (zEx Z X (zQi Z K) Xf 1 6) 4 h [(0, va_rf x0), (1, .int x1), (2, va_rf x2)] cells slots 0 [] := by
  unfold f_L_lacks at hf
  exact (z_aload_n (q := 1) hC dL_lacks_0 rfl 2 rfl (z_iconst (q := 2) (v := 0) hC dL_lacks_1 rfl ic_0 (z_aload_n (q := 3) hC dL_lacks_2 rfl 0 rfl (z_iload_n (q := 4) hC dL_lacks_3 rfl 1 rfl (z_callTi (q := 7) (As := [.int x1]) hC mi_X6_lacks ⟨q_522, q_523⟩ q_524 zct_6 (F := f_X6_lacks Z.2.2 x0 x1) (m_X6_lacks Z X.2.1 hC.2.2.2.2.2.2.2.2.2.1 x0 x1) (Nat.le_of_ble_eq_true rfl) (Nat.le_of_ble_eq_true rfl) rfl (by simp [va_rf_cat, z_ci, z_cj, z_cf, z_cd]) (by omega) (by omega) dL_lacks_4 rfl (BX := fun e h9 => if e = 1 then (K 1 h9) else (False)) hf rfl (fun e h9 hf => z_ite hf (fun he hf => z_catch hC hNc htb he [] (0, 9, 12, 13) [] rfl trivial (by decide) (by decide) zcl_1 zca_1 (rfl : _ = 12) (fun q9 => (z_astoreR_n (q := 13) (L' := [(3, va_rf (some q9)), (0, va_rf x0), (1, .int x1), (2, va_rf x2)]) hC dL_lacks_12 rfl rfl (Nat.le_of_ble_eq_true rfl) 2 rfl rfl rfl (z_iconst (q := 14) (v := 1) hC dL_lacks_13 rfl ic_1 (V.vx (z_iret hC hr rfl (by omega) (by omega) dL_lacks_14 hf)))))) (fun _ hf => hf.elim)) (fun v1 h2 hf => (z_i2l (q := 8) hC dL_lacks_7 rfl (z_last (q := 9) hC dL_lacks_8 rfl hf fun h3 hf => (z_goto (tgt := 15) hC dL_lacks_9 rfl (z_iconst (q := 16) (v := 0) hC dL_lacks_15 rfl ic_0 (V.vx (z_iret hC hr rfl (by omega) (by omega) dL_lacks_16 hf))))))))))))
theorem m_L_lacks (Z : zT) (l : Launch) (htr : l.stackTraces = false) (x0 : Option Nat) (x1 : Int32) (x2 : Option Nat) : zHi Z l yL_lacks cL_lacks 4 hh_L_lacks 7 1 6 114 [va_rf x0, .int x1, va_rf x2] (f_L_lacks Z.2.2 x0 x1 x2) := by
  intro h K
  refine vx_ofWH (cc := cL_lacks) (maxL := 4) (ret := some .int) (hh := hh_L_lacks) (by decide) rfl ?_
  intro p e s m args below meth c s₁ B hml hv
  obtain ⟨rfl, hw, hNc, hf⟩ := hv
  exact V.entry (X := (p, l, e, _, s, m, _, below, meth, c)) (m_L_lacks_e (z_cxH B hml htr hw) B.returns (vx_table (x := yL_lacks) B (zq_at hw.1 mi_L_lacks.1 _)) hNc (Nat.le_of_ble_eq_true rfl) (Nat.le_of_ble_eq_true rfl) hf) hw.2.2.1 (by simp [lv_args, va_rf_cat, z_ci, z_cj, z_cf, z_cd]) (by simp [lg_sl, va_rf_cat, z_ci, z_cj, z_cf, z_cd])
def f_L_ahead_B16 (g : Nat → Nat) (s0 : Option Nat) (s1 : Int32) (s2 : Int64) (h : AH) (Xf : Nat → AH → Prop) (K : Int32 → AH → Prop) : Prop :=
  stJ h s0 s1 s2 fun h1 => K 0 h1
def f_L_ahead (g : Nat → Nat) (x0 : Option Nat) (x1 : Int32) (x2 : Int32) (x3 : Option Nat) (h : AH) (Xf : Nat → AH → Prop) (K : Int32 → AH → Prop) : Prop :=
  cast h x0 7 (f_X6_ahead g x0 x1 x2 h (fun e h9 => if e = 3 then (K 1 h9) else (if e = 1 then (K 2 h9) else (if e = 4 then (K 3 h9) else (False)))) (fun v2 h3 => if v2 = 0 then (f_L_ahead_B16 g x3 0 (0 : Int64) h3 Xf K) else (f_L_ahead_B16 g x3 0 (1 : Int64) h3 Xf K)))
theorem m_L_ahead_B16 {Z : zT} {X : zX} (hC : Cx Z X RL cL_ahead 5 9 3 18 156) (hr : X.2.2.2.2.2.2.2.2.1.sig.returnType = some .int) (htb : (zc X).exceptionTable.toList = tableOf hh_L_ahead) (hNc : zNc (zs X))  {s0 : Option Nat} {s1 : Int32} {s2 : Int64} {h : AH} {Xf : Nat → AH → Prop} {K : Int32 → AH → Prop} {cells slots : Nat} (hc : cells + 0 ≤ 3) (hs : slots + 0 ≤ 18) (hf : f_L_ahead_B16 Z.2.2 s0 s1 s2 h Xf K) : V Z X (zEx Z X (zQi Z K) Xf 3 18) 5 h [] cells slots 16 [.long s2, .int s1, va_rf s0] := by
  unfold f_L_ahead_B16 at hf
  exact (z_last (q := 17) hC dL_ahead_16 rfl hf fun h1 hf => (z_goto (tgt := 32) hC dL_ahead_17 rfl (z_iconst (q := 33) (v := 0) hC dL_ahead_32 rfl ic_0 (V.vx (z_iret hC hr rfl (by omega) (by omega) dL_ahead_33 hf)))))
theorem m_L_ahead_e {Z : zT} {X : zX} (hC : Cx Z X RL cL_ahead 5 9 3 18 156) (hr : X.2.2.2.2.2.2.2.2.1.sig.returnType = some .int) (htb : (zc X).exceptionTable.toList = tableOf hh_L_ahead) (hNc : zNc (zs X)) {x0 : Option Nat} {x1 : Int32} {x2 : Int32} {x3 : Option Nat} {h : AH} {Xf : Nat → AH → Prop} {K : Int32 → AH → Prop} {cells slots : Nat} (hc : cells + 3 ≤ 3) (hs : slots + 18 ≤ 18) (hf : f_L_ahead Z.2.2 x0 x1 x2 x3 h Xf K) : V Z X (zEx Z X (zQi Z K) Xf 3 18) 5 h [(0, va_rf x0), (1, .int x1), (2, .int x2), (3, va_rf x3)] cells slots 0 [] := by
  unfold f_L_ahead at hf
  exact (z_aload_n (q := 1) hC dL_ahead_0 rfl 3 rfl (z_iconst (q := 2) (v := 0) hC dL_ahead_1 rfl ic_0 (z_aload_n (q := 3) hC dL_ahead_2 rfl 0 rfl (z_iload_n (q := 4) hC dL_ahead_3 rfl 1 rfl (z_iload_n (q := 5) hC dL_ahead_4 rfl 2 rfl (z_callTi (q := 8) (As := [.int x1, .int x2]) hC mi_X6_ahead ⟨q_525, q_526⟩ q_527 zct_6 (F := f_X6_ahead Z.2.2 x0 x1 x2) (m_X6_ahead Z X.2.1 hC.2.2.2.2.2.2.2.2.2.1 x0 x1 x2) (Nat.le_of_ble_eq_true rfl) (Nat.le_of_ble_eq_true rfl) rfl (by simp [va_rf_cat, z_ci, z_cj, z_cf, z_cd]) (by omega) (by omega) dL_ahead_5 rfl (BX := fun e h9 => if e = 3 then (K 1 h9) else (if e = 1 then (K 2 h9) else (if e = 4 then (K 3 h9) else (False)))) hf rfl (fun e h9 hf => z_ite hf (fun he hf => z_catch hC hNc htb he [] (0, 17, 20, 21) [(0, 17, 24, 13), (0, 17, 28, 27)] rfl trivial (by decide) (by decide) zcl_3 zca_3 (rfl : _ = 20) (fun q9 => (z_astoreR (q := 22) (L' := [(4, va_rf (some q9)), (0, va_rf x0), (1, .int x1), (2, .int x2), (3, va_rf x3)]) hC dL_ahead_20 rfl (Nat.le_of_ble_eq_true rfl) 3 rfl rfl rfl (z_iconst (q := 23) (v := 1) hC dL_ahead_22 rfl ic_1 (V.vx (z_iret hC hr rfl (by omega) (by omega) dL_ahead_23 hf)))))) (fun _ hf => z_ite hf (fun he hf => z_catch hC hNc htb he [(0, 17, 20, 21)] (0, 17, 24, 13) [(0, 17, 28, 27)] rfl ⟨⟨by decide, 3, zcl_3, by decide⟩, trivial⟩ (by decide) (by decide) zcl_1 zca_1 (rfl : _ = 24) (fun q9 => (z_astoreR (q := 26) (L' := [(4, va_rf (some q9)), (0, va_rf x0), (1, .int x1), (2, .int x2), (3, va_rf x3)]) hC dL_ahead_24 rfl (Nat.le_of_ble_eq_true rfl) 3 rfl rfl rfl (z_iconst (q := 27) (v := 2) hC dL_ahead_26 rfl ic_2 (V.vx (z_iret hC hr rfl (by omega) (by omega) dL_ahead_27 hf)))))) (fun _ hf => z_ite hf (fun he hf => z_catch hC hNc htb he [(0, 17, 20, 21), (0, 17, 24, 13)] (0, 17, 28, 27) [] rfl ⟨⟨by decide, 3, zcl_3, by decide⟩, ⟨⟨by decide, 1, zcl_1, by decide⟩, trivial⟩⟩ (by decide) (by decide) zcl_4 zca_4 (rfl : _ = 28) (fun q9 => (z_astoreR (q := 30) (L' := [(4, va_rf (some q9)), (0, va_rf x0), (1, .int x1), (2, .int x2), (3, va_rf x3)]) hC dL_ahead_28 rfl (Nat.le_of_ble_eq_true rfl) 3 rfl rfl rfl (z_iconst (q := 31) (v := 3) hC dL_ahead_30 rfl ic_3 (V.vx (z_iret hC hr rfl (by omega) (by omega) dL_ahead_31 hf)))))) (fun _ hf => hf.elim)))) (fun v2 h3 hf => (z_if_eq (tgt := 15) (q := 11) hC dL_ahead_8 rfl rfl hf (fun _ hf => (z_lconst (q := 16) (v := 0) hC dL_ahead_15 rfl rfl (V.sub [] rfl (m_L_ahead_B16 hC hr htb hNc (by omega) (by omega) hf)))) (fun _ hf => (z_lconst (q := 12) (v := 1) hC dL_ahead_11 rfl rfl (z_goto (tgt := 16) hC dL_ahead_12 rfl (V.sub [] rfl (m_L_ahead_B16 hC hr htb hNc (by omega) (by omega) hf)))))))))))))
theorem m_L_ahead (Z : zT) (l : Launch) (htr : l.stackTraces = false) (x0 : Option Nat) (x1 : Int32) (x2 : Int32) (x3 : Option Nat) : zHi Z l yL_ahead cL_ahead 5 hh_L_ahead 9 3 18 156 [va_rf x0, .int x1, .int x2, va_rf x3] (f_L_ahead Z.2.2 x0 x1 x2 x3) := by
  intro h K
  refine vx_ofWH (cc := cL_ahead) (maxL := 5) (ret := some .int) (hh := hh_L_ahead) (by decide) rfl ?_
  intro p e s m args below meth c s₁ B hml hv
  obtain ⟨rfl, hw, hNc, hf⟩ := hv
  exact V.entry (X := (p, l, e, _, s, m, _, below, meth, c)) (m_L_ahead_e (z_cxH B hml htr hw) B.returns (vx_table (x := yL_ahead) B (zq_at hw.1 mi_L_ahead.1 _)) hNc (Nat.le_of_ble_eq_true rfl) (Nat.le_of_ble_eq_true rfl) hf) hw.2.2.1 (by simp [lv_args, va_rf_cat, z_ci, z_cj, z_cf, z_cd]) (by simp [lg_sl, va_rf_cat, z_ci, z_cj, z_cf, z_cd])
def f_L_isReady_B15 (g : Nat → Nat) (s0 : Option Nat) (s1 : Int32) (s2 : Int64) (h : AH) (Xf : Nat → AH → Prop) (K : Int32 → AH → Prop) : Prop :=
  stJ h s0 s1 s2 fun h1 => K 0 h1
def f_L_isReady (g : Nat → Nat) (x0 : Option Nat) (x1 : Int32) (x2 : Option Nat) (h : AH) (Xf : Nat → AH → Prop) (K : Int32 → AH → Prop) : Prop :=
  cast h x0 7 (f_X6_isReady g x0 x1 h (fun e h9 => if e = 3 then (K 1 h9) else (False)) (fun v2 h3 => if v2 = 0 then (f_L_isReady_B15 g x2 0 (0 : Int64) h3 Xf K) else (f_L_isReady_B15 g x2 0 (1 : Int64) h3 Xf K)))
theorem m_L_isReady_B15 {Z : zT} {X : zX} (hC : Cx Z X RL cL_isReady 4 8 1 6 134) (hr : X.2.2.2.2.2.2.2.2.1.sig.returnType = some .int) (htb : (zc X).exceptionTable.toList = tableOf hh_L_isReady) (hNc : zNc (zs X))  {s0 : Option Nat} {s1 : Int32} {s2 : Int64} {h : AH} {Xf : Nat → AH → Prop} {K : Int32 → AH → Prop} {cells slots : Nat} (hc : cells + 0 ≤ 1) (hs : slots + 0 ≤ 6) (hf : f_L_isReady_B15 Z.2.2 s0 s1 s2 h Xf K) : V Z X (zEx Z X (zQi Z K) Xf 1 6) 4 h [] cells slots 15 [.long s2, .int s1, va_rf s0] := by
  unfold f_L_isReady_B15 at hf
  exact (z_last (q := 16) hC dL_isReady_15 rfl hf fun h1 hf => (z_goto (tgt := 22) hC dL_isReady_16 rfl (z_iconst (q := 23) (v := 0) hC dL_isReady_22 rfl ic_0 (V.vx (z_iret hC hr rfl (by omega) (by omega) dL_isReady_23 hf)))))
theorem m_L_isReady_e {Z : zT} {X : zX} (hC : Cx Z X RL cL_isReady 4 8 1 6 134) (hr : X.2.2.2.2.2.2.2.2.1.sig.returnType = some .int) (htb : (zc X).exceptionTable.toList = tableOf hh_L_isReady) (hNc : zNc (zs X)) {x0 : Option Nat} {x1 : Int32} {x2 : Option Nat} {h : AH} {Xf : Nat → AH → Prop} {K : Int32 → AH → Prop} {cells slots : Nat} (hc : cells + 1 ≤ 1) (hs : slots + 6 ≤ 6) (hf : f_L_isReady Z.2.2 x0 x1 x2 h Xf K) : V Z X (zEx Z X (zQi Z K) Xf 1 6) 4 h [(0, va_rf x0), (1, .int x1), (2, va_rf x2)] cells slots 0 [] := by
  unfold f_L_isReady at hf
  exact (z_aload_n (q := 1) hC dL_isReady_0 rfl 2 rfl (z_iconst (q := 2) (v := 0) hC dL_isReady_1 rfl ic_0 (z_aload_n (q := 3) hC dL_isReady_2 rfl 0 rfl (z_iload_n (q := 4) hC dL_isReady_3 rfl 1 rfl (z_callTi (q := 7) (As := [.int x1]) hC mi_X6_isReady ⟨q_528, q_529⟩ q_530 zct_6 (F := f_X6_isReady Z.2.2 x0 x1) (m_X6_isReady Z X.2.1 hC.2.2.2.2.2.2.2.2.2.1 x0 x1) (Nat.le_of_ble_eq_true rfl) (Nat.le_of_ble_eq_true rfl) rfl (by simp [va_rf_cat, z_ci, z_cj, z_cf, z_cd]) (by omega) (by omega) dL_isReady_4 rfl (BX := fun e h9 => if e = 3 then (K 1 h9) else (False)) hf rfl (fun e h9 hf => z_ite hf (fun he hf => z_catch hC hNc htb he [] (0, 16, 19, 21) [] rfl trivial (by decide) (by decide) zcl_3 zca_3 (rfl : _ = 19) (fun q9 => (z_astoreR_n (q := 20) (L' := [(3, va_rf (some q9)), (0, va_rf x0), (1, .int x1), (2, va_rf x2)]) hC dL_isReady_19 rfl rfl (Nat.le_of_ble_eq_true rfl) 2 rfl rfl rfl (z_iconst (q := 21) (v := 1) hC dL_isReady_20 rfl ic_1 (V.vx (z_iret hC hr rfl (by omega) (by omega) dL_isReady_21 hf)))))) (fun _ hf => hf.elim)) (fun v2 h3 hf => (z_if_eq (tgt := 14) (q := 10) hC dL_isReady_7 rfl rfl hf (fun _ hf => (z_lconst (q := 15) (v := 0) hC dL_isReady_14 rfl rfl (V.sub [] rfl (m_L_isReady_B15 hC hr htb hNc (by omega) (by omega) hf)))) (fun _ hf => (z_lconst (q := 11) (v := 1) hC dL_isReady_10 rfl rfl (z_goto (tgt := 15) hC dL_isReady_11 rfl (V.sub [] rfl (m_L_isReady_B15 hC hr htb hNc (by omega) (by omega) hf))))))))))))
theorem m_L_isReady (Z : zT) (l : Launch) (htr : l.stackTraces = false) (x0 : Option Nat) (x1 : Int32) (x2 : Option Nat) : zHi Z l yL_isReady cL_isReady 4 hh_L_isReady 8 1 6 134 [va_rf x0, .int x1, va_rf x2] (f_L_isReady Z.2.2 x0 x1 x2) := by
  intro h K
  refine vx_ofWH (cc := cL_isReady) (maxL := 4) (ret := some .int) (hh := hh_L_isReady) (by decide) rfl ?_
  intro p e s m args below meth c s₁ B hml hv
  obtain ⟨rfl, hw, hNc, hf⟩ := hv
  exact V.entry (X := (p, l, e, _, s, m, _, below, meth, c)) (m_L_isReady_e (z_cxH B hml htr hw) B.returns (vx_table (x := yL_isReady) B (zq_at hw.1 mi_L_isReady.1 _)) hNc (Nat.le_of_ble_eq_true rfl) (Nat.le_of_ble_eq_true rfl) hf) hw.2.2.1 (by simp [lv_args, va_rf_cat, z_ci, z_cj, z_cf, z_cd]) (by simp [lg_sl, va_rf_cat, z_ci, z_cj, z_cf, z_cd])
def f_L_turnover (g : Nat → Nat) (x0 : Option Nat) (x1 : Int32) (x2 : Option Nat) (h : AH) (Xf : Nat → AH → Prop) (K : Int32 → AH → Prop) : Prop :=
  cast h x0 7 (f_X6_turnover g x0 x1 h (fun e h9 => if e = 5 then (K 1 h9) else (False)) (fun v1 h2 => stJ h2 x2 0 (v1.toInt64) fun h3 => K 0 h3))
theorem m_L_turnover_e {Z : zT} {X : zX} (hC : Cx Z X RL cL_turnover 4 7 1 6 113) (hr : X.2.2.2.2.2.2.2.2.1.sig.returnType = some .int) (htb : (zc X).exceptionTable.toList = tableOf hh_L_turnover) (hNc : zNc (zs X)) {x0 : Option Nat} {x1 : Int32} {x2 : Option Nat} {h : AH} {Xf : Nat → AH → Prop} {K : Int32 → AH → Prop} {cells slots : Nat} (hc : cells + 1 ≤ 1) (hs : slots + 6 ≤ 6) (hf : f_L_turnover Z.2.2 x0 x1 x2 h Xf K) : V Z X (zEx Z X (zQi Z K) Xf 1 6) 4 h [(0, va_rf x0), (1, .int x1), (2, va_rf x2)] cells slots 0 [] := by
  unfold f_L_turnover at hf
  exact (z_aload_n (q := 1) hC dL_turnover_0 rfl 2 rfl (z_iconst (q := 2) (v := 0) hC dL_turnover_1 rfl ic_0 (z_aload_n (q := 3) hC dL_turnover_2 rfl 0 rfl (z_iload_n (q := 4) hC dL_turnover_3 rfl 1 rfl (z_callTi (q := 7) (As := [.int x1]) hC mi_X6_turnover ⟨q_531, q_532⟩ q_533 zct_6 (F := f_X6_turnover Z.2.2 x0 x1) (m_X6_turnover Z X.2.1 hC.2.2.2.2.2.2.2.2.2.1 x0 x1) (Nat.le_of_ble_eq_true rfl) (Nat.le_of_ble_eq_true rfl) rfl (by simp [va_rf_cat, z_ci, z_cj, z_cf, z_cd]) (by omega) (by omega) dL_turnover_4 rfl (BX := fun e h9 => if e = 5 then (K 1 h9) else (False)) hf rfl (fun e h9 hf => z_ite hf (fun he hf => z_catch hC hNc htb he [] (0, 9, 12, 63) [] rfl trivial (by decide) (by decide) zcl_5 zca_5 (rfl : _ = 12) (fun q9 => (z_astoreR_n (q := 13) (L' := [(3, va_rf (some q9)), (0, va_rf x0), (1, .int x1), (2, va_rf x2)]) hC dL_turnover_12 rfl rfl (Nat.le_of_ble_eq_true rfl) 2 rfl rfl rfl (z_iconst (q := 14) (v := 1) hC dL_turnover_13 rfl ic_1 (V.vx (z_iret hC hr rfl (by omega) (by omega) dL_turnover_14 hf)))))) (fun _ hf => hf.elim)) (fun v1 h2 hf => (z_i2l (q := 8) hC dL_turnover_7 rfl (z_last (q := 9) hC dL_turnover_8 rfl hf fun h3 hf => (z_goto (tgt := 15) hC dL_turnover_9 rfl (z_iconst (q := 16) (v := 0) hC dL_turnover_15 rfl ic_0 (V.vx (z_iret hC hr rfl (by omega) (by omega) dL_turnover_16 hf))))))))))))
theorem m_L_turnover (Z : zT) (l : Launch) (htr : l.stackTraces = false) (x0 : Option Nat) (x1 : Int32) (x2 : Option Nat) : zHi Z l yL_turnover cL_turnover 4 hh_L_turnover 7 1 6 113 [va_rf x0, .int x1, va_rf x2] (f_L_turnover Z.2.2 x0 x1 x2) := by
  intro h K
  refine vx_ofWH (cc := cL_turnover) (maxL := 4) (ret := some .int) (hh := hh_L_turnover) (by decide) rfl ?_
  intro p e s m args below meth c s₁ B hml hv
  obtain ⟨rfl, hw, hNc, hf⟩ := hv
  exact V.entry (X := (p, l, e, _, s, m, _, below, meth, c)) (m_L_turnover_e (z_cxH B hml htr hw) B.returns (vx_table (x := yL_turnover) B (zq_at hw.1 mi_L_turnover.1 _)) hNc (Nat.le_of_ble_eq_true rfl) (Nat.le_of_ble_eq_true rfl) hf) hw.2.2.1 (by simp [lv_args, va_rf_cat, z_ci, z_cj, z_cf, z_cd]) (by simp [lg_sl, va_rf_cat, z_ci, z_cj, z_cf, z_cd])
def f_L_doneShare (g : Nat → Nat) (x0 : Option Nat) (x1 : Option Nat) (h : AH) (Xf : Nat → AH → Prop) (K : Int32 → AH → Prop) : Prop :=
  cast h x0 7 (f_X6_doneShare g x0 h (fun e h9 => if e = 6 then (K 1 h9) else (False)) (fun v1 h2 => vf_n64 (FP.f2d v1) ∧ stD h2 x1 0 (FP.f2d v1) fun h3 => K 0 h3))
theorem m_L_doneShare_e {Z : zT} {X : zX} (hC : Cx Z X RL cL_doneShare 3 7 1 6 115) (hr : X.2.2.2.2.2.2.2.2.1.sig.returnType = some .int) (htb : (zc X).exceptionTable.toList = tableOf hh_L_doneShare) (hNc : zNc (zs X)) {x0 : Option Nat} {x1 : Option Nat} {h : AH} {Xf : Nat → AH → Prop} {K : Int32 → AH → Prop} {cells slots : Nat} (hc : cells + 1 ≤ 1) (hs : slots + 6 ≤ 6) (hf : f_L_doneShare Z.2.2 x0 x1 h Xf K) : V Z X (zEx Z X (zQi Z K) Xf 1 6) 3 h [(0, va_rf x0), (1, va_rf x1)] cells slots 0 [] := by
  unfold f_L_doneShare at hf
  exact (z_aload_n (q := 1) hC dL_doneShare_0 rfl 1 rfl (z_iconst (q := 2) (v := 0) hC dL_doneShare_1 rfl ic_0 (z_aload_n (q := 3) hC dL_doneShare_2 rfl 0 rfl (z_callTf (q := 6) (As := []) hC mi_X6_doneShare ⟨q_534, q_535⟩ q_536 zct_6 (F := f_X6_doneShare Z.2.2 x0) (m_X6_doneShare Z X.2.1 hC.2.2.2.2.2.2.2.2.2.1 x0) (Nat.le_of_ble_eq_true rfl) (Nat.le_of_ble_eq_true rfl) rfl (by simp [va_rf_cat, z_ci, z_cj, z_cf, z_cd]) (by omega) (by omega) dL_doneShare_3 rfl (BX := fun e h9 => if e = 6 then (K 1 h9) else (False)) hf rfl (fun e h9 hf => z_ite hf (fun he hf => z_catch hC hNc htb he [] (0, 8, 11, 151) [] rfl trivial (by decide) (by decide) zcl_6 zca_6 (rfl : _ = 11) (fun q9 => (z_astoreR_n (q := 12) (L' := [(2, va_rf (some q9)), (0, va_rf x0), (1, va_rf x1)]) hC dL_doneShare_11 rfl rfl (Nat.le_of_ble_eq_true rfl) 1 rfl rfl rfl (z_iconst (q := 13) (v := 1) hC dL_doneShare_12 rfl ic_1 (V.vx (z_iret hC hr rfl (by omega) (by omega) dL_doneShare_13 hf)))))) (fun _ hf => hf.elim)) (fun v1 h2 hf => (z_f2d (q := 7) hC dL_doneShare_6 rfl hf fun hf => (z_dast (q := 8) hC dL_doneShare_7 rfl hf fun h3 hf => (z_goto (tgt := 14) hC dL_doneShare_8 rfl (z_iconst (q := 15) (v := 0) hC dL_doneShare_14 rfl ic_0 (V.vx (z_iret hC hr rfl (by omega) (by omega) dL_doneShare_15 hf)))))))))))
theorem m_L_doneShare (Z : zT) (l : Launch) (htr : l.stackTraces = false) (x0 : Option Nat) (x1 : Option Nat) : zHi Z l yL_doneShare cL_doneShare 3 hh_L_doneShare 7 1 6 115 [va_rf x0, va_rf x1] (f_L_doneShare Z.2.2 x0 x1) := by
  intro h K
  refine vx_ofWH (cc := cL_doneShare) (maxL := 3) (ret := some .int) (hh := hh_L_doneShare) (by decide) rfl ?_
  intro p e s m args below meth c s₁ B hml hv
  obtain ⟨rfl, hw, hNc, hf⟩ := hv
  exact V.entry (X := (p, l, e, _, s, m, _, below, meth, c)) (m_L_doneShare_e (z_cxH B hml htr hw) B.returns (vx_table (x := yL_doneShare) B (zq_at hw.1 mi_L_doneShare.1 _)) hNc (Nat.le_of_ble_eq_true rfl) (Nat.le_of_ble_eq_true rfl) hf) hw.2.2.1 (by simp [lv_args, va_rf_cat, z_ci, z_cj, z_cf, z_cd]) (by simp [lg_sl, va_rf_cat, z_ci, z_cj, z_cf, z_cd])
def f_L_meanSpool (g : Nat → Nat) (x0 : Option Nat) (x1 : Int32) (x2 : Option Nat) (h : AH) (Xf : Nat → AH → Prop) (K : Int32 → AH → Prop) : Prop :=
  cast h x0 7 (f_X6_meanSpool g x0 x1 h (fun e h9 => if e = 3 then (K 1 h9) else (if e = 6 then (K 2 h9) else (False))) (fun v1 h2 => stD h2 x2 0 v1 fun h3 => K 0 h3))
theorem m_L_meanSpool_e {Z : zT} {X : zX} (hC : Cx Z X RL cL_meanSpool 4 9 2 12 155) (hr : X.2.2.2.2.2.2.2.2.1.sig.returnType = some .int) (htb : (zc X).exceptionTable.toList = tableOf hh_L_meanSpool) (hNc : zNc (zs X)) {x0 : Option Nat} {x1 : Int32} {x2 : Option Nat} {h : AH} {Xf : Nat → AH → Prop} {K : Int32 → AH → Prop} {cells slots : Nat} (hc : cells + 2 ≤ 2) (hs : slots + 12 ≤ 12) (hf : f_L_meanSpool Z.2.2 x0 x1 x2 h Xf K) : V Z X (zEx Z X (zQi Z K) Xf 2 12) 4 h [(0, va_rf x0), (1, .int x1), (2, va_rf x2)] cells slots 0 [] := by
  unfold f_L_meanSpool at hf
  exact (z_aload_n (q := 1) hC dL_meanSpool_0 rfl 2 rfl (z_iconst (q := 2) (v := 0) hC dL_meanSpool_1 rfl ic_0 (z_aload_n (q := 3) hC dL_meanSpool_2 rfl 0 rfl (z_iload_n (q := 4) hC dL_meanSpool_3 rfl 1 rfl (z_callTd (q := 7) (As := [.int x1]) hC mi_X6_meanSpool ⟨q_537, q_538⟩ q_539 zct_6 (F := f_X6_meanSpool Z.2.2 x0 x1) (m_X6_meanSpool Z X.2.1 hC.2.2.2.2.2.2.2.2.2.1 x0 x1) (Nat.le_of_ble_eq_true rfl) (Nat.le_of_ble_eq_true rfl) rfl (by simp [va_rf_cat, z_ci, z_cj, z_cf, z_cd]) (by omega) (by omega) dL_meanSpool_4 rfl (BX := fun e h9 => if e = 3 then (K 1 h9) else (if e = 6 then (K 2 h9) else (False))) hf rfl (fun e h9 hf => z_ite hf (fun he hf => z_catch hC hNc htb he [] (0, 8, 11, 21) [(0, 8, 14, 151)] rfl trivial (by decide) (by decide) zcl_3 zca_3 (rfl : _ = 11) (fun q9 => (z_astoreR_n (q := 12) (L' := [(3, va_rf (some q9)), (0, va_rf x0), (1, .int x1), (2, va_rf x2)]) hC dL_meanSpool_11 rfl rfl (Nat.le_of_ble_eq_true rfl) 2 rfl rfl rfl (z_iconst (q := 13) (v := 1) hC dL_meanSpool_12 rfl ic_1 (V.vx (z_iret hC hr rfl (by omega) (by omega) dL_meanSpool_13 hf)))))) (fun _ hf => z_ite hf (fun he hf => z_catch hC hNc htb he [(0, 8, 11, 21)] (0, 8, 14, 151) [] rfl ⟨⟨by decide, 3, zcl_3, by decide⟩, trivial⟩ (by decide) (by decide) zcl_6 zca_6 (rfl : _ = 14) (fun q9 => (z_astoreR_n (q := 15) (L' := [(3, va_rf (some q9)), (0, va_rf x0), (1, .int x1), (2, va_rf x2)]) hC dL_meanSpool_14 rfl rfl (Nat.le_of_ble_eq_true rfl) 2 rfl rfl rfl (z_iconst (q := 16) (v := 2) hC dL_meanSpool_15 rfl ic_2 (V.vx (z_iret hC hr rfl (by omega) (by omega) dL_meanSpool_16 hf)))))) (fun _ hf => hf.elim))) (fun v1 h2 hf => (z_dast (q := 8) hC dL_meanSpool_7 rfl hf fun h3 hf => (z_goto (tgt := 17) hC dL_meanSpool_8 rfl (z_iconst (q := 18) (v := 0) hC dL_meanSpool_17 rfl ic_0 (V.vx (z_iret hC hr rfl (by omega) (by omega) dL_meanSpool_18 hf)))))))))))
theorem m_L_meanSpool (Z : zT) (l : Launch) (htr : l.stackTraces = false) (x0 : Option Nat) (x1 : Int32) (x2 : Option Nat) : zHi Z l yL_meanSpool cL_meanSpool 4 hh_L_meanSpool 9 2 12 155 [va_rf x0, .int x1, va_rf x2] (f_L_meanSpool Z.2.2 x0 x1 x2) := by
  intro h K
  refine vx_ofWH (cc := cL_meanSpool) (maxL := 4) (ret := some .int) (hh := hh_L_meanSpool) (by decide) rfl ?_
  intro p e s m args below meth c s₁ B hml hv
  obtain ⟨rfl, hw, hNc, hf⟩ := hv
  exact V.entry (X := (p, l, e, _, s, m, _, below, meth, c)) (m_L_meanSpool_e (z_cxH B hml htr hw) B.returns (vx_table (x := yL_meanSpool) B (zq_at hw.1 mi_L_meanSpool.1 _)) hNc (Nat.le_of_ble_eq_true rfl) (Nat.le_of_ble_eq_true rfl) hf) hw.2.2.1 (by simp [lv_args, va_rf_cat, z_ci, z_cj, z_cf, z_cd]) (by simp [lg_sl, va_rf_cat, z_ci, z_cj, z_cf, z_cd])
