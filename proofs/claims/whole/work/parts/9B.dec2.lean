theorem dA411 : lwD 411 1 := ⟨by decide +kernel, by decide +kernel, by decide +kernel, by decide +kernel, by decide +kernel⟩
theorem dA417 : lwD 417 2 := ⟨by decide +kernel, by decide +kernel, by decide +kernel, by decide +kernel, by decide +kernel⟩
theorem dL423 : decode code 423 = .ok (.invokevirtual 61, 3) := by decide +kernel
theorem dL426 : decode code 426 = .ok (.if_icmp .eq 30, 3) := by decide +kernel
theorem dL431 : decode code 431 = .ok (.aload_n 1, 1) := by decide +kernel
theorem dA432 : lwD 432 1 := ⟨by decide +kernel, by decide +kernel, by decide +kernel, by decide +kernel, by decide +kernel⟩
theorem dL438 : decode code 438 = .ok (.invokevirtual 62, 3) := by decide +kernel
theorem dL441 : decode code 441 = .ok (.aload_n 2, 1) := by decide +kernel
theorem dA442 : lwD 442 1 := ⟨by decide +kernel, by decide +kernel, by decide +kernel, by decide +kernel, by decide +kernel⟩
theorem dL448 : decode code 448 = .ok (.invokevirtual 65, 3) := by decide +kernel
theorem dL451 : decode code 451 = .ok (.if_icmp .eq 5, 3) := by decide +kernel
theorem dL252 : decode code 252 = .ok (.aload_n 1, 1) := by decide +kernel
theorem dL259 : decode code 259 = .ok (.aload_n 3, 1) := by decide +kernel
theorem dL260 : decode code 260 = .ok (.invokestatic 38, 3) := by decide +kernel
theorem dL263 : decode code 263 = .ok (.istore 5, 2) := by decide +kernel
theorem dL265 : decode code 265 = .ok (.aload_n 2, 1) := by decide +kernel
theorem dL272 : decode code 272 = .ok (.invokevirtual 43, 3) := by decide +kernel
theorem dL275 : decode code 275 = .ok (.istore 6, 2) := by decide +kernel
theorem dL277 : decode code 277 = .ok (.aload_n 2, 1) := by decide +kernel
theorem dL278 : decode code 278 = .ok (.invokevirtual 44, 3) := by decide +kernel
theorem dL281 : decode code 281 = .ok (.iload 5, 2) := by decide +kernel
theorem dL283 : decode code 283 = .ok (.if_icmp .eq 5, 3) := by decide +kernel
theorem dL288 : decode code 288 = .ok (.iload 5, 2) := by decide +kernel
theorem dL290 : decode code 290 = .ok (.ifCond .ne 15, 3) := by decide +kernel
theorem dL293 : decode code 293 = .ok (.aload_n 3, 1) := by decide +kernel
theorem dL294 : decode code 294 = .ok (.iconst 0, 1) := by decide +kernel
theorem dL295 : decode code 295 = .ok (.laload, 1) := by decide +kernel
theorem dL296 : decode code 296 = .ok (.iload 6, 2) := by decide +kernel
theorem dL298 : decode code 298 = .ok (.i2l, 1) := by decide +kernel
theorem dL299 : decode code 299 = .ok (.lcmp, 1) := by decide +kernel
theorem dL300 : decode code 300 = .ok (.ifCond .eq 5, 3) := by decide +kernel
theorem dL305 : decode code 305 = .ok (.goto 151, 3) := by decide +kernel
theorem dA253 : lwD 253 1 := ⟨by decide +kernel, by decide +kernel, by decide +kernel, by decide +kernel, by decide +kernel⟩
theorem dA266 : lwD 266 1 := ⟨by decide +kernel, by decide +kernel, by decide +kernel, by decide +kernel, by decide +kernel⟩
theorem dL0 : decode code 0 = .ok (.new 8, 3) := by decide +kernel
theorem dL3 : decode code 3 = .ok (.dup, 1) := by decide +kernel
theorem dL4 : decode code 4 = .ok (.invokespecial 15, 3) := by decide +kernel
theorem dL7 : decode code 7 = .ok (.astore_n 1, 1) := by decide +kernel
theorem dL8 : decode code 8 = .ok (.new 16, 3) := by decide +kernel
theorem dL11 : decode code 11 = .ok (.dup, 1) := by decide +kernel
theorem dL12 : decode code 12 = .ok (.invokespecial 18, 3) := by decide +kernel
theorem dL15 : decode code 15 = .ok (.astore_n 2, 1) := by decide +kernel
theorem dL16 : decode code 16 = .ok (.iconst 1, 1) := by decide +kernel
theorem dL17 : decode code 17 = .ok (.newarray .long, 2) := by decide +kernel
theorem dL19 : decode code 19 = .ok (.astore_n 3, 1) := by decide +kernel
theorem dL20 : decode code 20 = .ok (.iconst 0, 1) := by decide +kernel
theorem dL21 : decode code 21 = .ok (.istore 4, 2) := by decide +kernel
theorem dL23 : decode code 23 = .ok (.iload 4, 2) := by decide +kernel
theorem dL25 : decode code 25 = .ok (.aload_n 0, 1) := by decide +kernel
theorem dL26 : decode code 26 = .ok (.arraylength, 1) := by decide +kernel
theorem dL27 : decode code 27 = .ok (.bipush 6, 2) := by decide +kernel
theorem dL29 : decode code 29 = .ok (.isub, 1) := by decide +kernel
theorem dL30 : decode code 30 = .ok (.if_icmp .gt 432, 3) := by decide +kernel
theorem dL33 : decode code 33 = .ok (.aload_n 0, 1) := by decide +kernel
theorem dL34 : decode code 34 = .ok (.iload 4, 2) := by decide +kernel
theorem dL36 : decode code 36 = .ok (.iaload, 1) := by decide +kernel
theorem dL37 : decode code 37 = .ok (.bipush 15, 2) := by decide +kernel
theorem dL39 : decode code 39 = .ok (.iand, 1) := by decide +kernel
theorem dL456 : decode code 456 = .ok (.iinc 4 6, 3) := by decide +kernel
theorem dL459 : decode code 459 = .ok (.goto (-436), 3) := by decide +kernel
theorem dL462 : decode code 462 = .ok (.iconst 1, 1) := by decide +kernel
theorem dL463 : decode code 463 = .ok (.ireturn, 1) := by decide +kernel
theorem dL40 : decode code 40 = .ok (.tableswitch 416 0 8 #[52, 125, 150, 175, 212, 268, 305, 354, 391], 52) := by decide +kernel
