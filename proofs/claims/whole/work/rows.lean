section
-- ===== PART A: goes FIRST, ahead of the names: the tables' words, and 'selects' of the private methods out of them =====
/-- a private method of a class that the tables say can be made, by its rows of tables_1 -/
def lw_okq (q : MethodName × Nat) : Prop := (q.1.cls ≠ "java/lang/invoke/MethodHandle" ∧ q.1.cls ≠ "java/lang/invoke/VarHandle") ∧ Cond.instantiable q.1.cls q.2 ∈ tables_1 ∧ Cond.privateMethod q.1 ∈ tables_1 ∧ Cond.instanceMethod q.1 ∈ tables_1
theorem lw_p0 : lw_okq (⟨"ElasticKernel", "isRefused", "(I)Z"⟩, 8) := ⟨⟨by decide +kernel, by decide +kernel⟩, List.mem_of_getElem? (i := 17) (by decide +kernel), List.mem_of_getElem? (i := 241) (by decide +kernel), List.mem_of_getElem? (i := 242) (by decide +kernel)⟩
theorem lw_p1 : lw_okq (⟨"ElasticKernel", "solve", "()V"⟩, 8) := ⟨⟨by decide +kernel, by decide +kernel⟩, List.mem_of_getElem? (i := 17) (by decide +kernel), List.mem_of_getElem? (i := 296) (by decide +kernel), List.mem_of_getElem? (i := 297) (by decide +kernel)⟩
theorem lw_p2 : lw_okq (⟨"ElasticKernel$Springs", "unpin", "(LElasticKernel$Roster;)V"⟩, 5) := ⟨⟨by decide +kernel, by decide +kernel⟩, List.mem_of_getElem? (i := 148) (by decide +kernel), List.mem_of_getElem? (i := 304) (by decide +kernel), List.mem_of_getElem? (i := 305) (by decide +kernel)⟩
theorem lw_p3 : lw_okq (⟨"ElasticKernel$Springs", "addUp", "(LElasticKernel$Roster;)V"⟩, 5) := ⟨⟨by decide +kernel, by decide +kernel⟩, List.mem_of_getElem? (i := 148) (by decide +kernel), List.mem_of_getElem? (i := 308) (by decide +kernel), List.mem_of_getElem? (i := 309) (by decide +kernel)⟩
theorem lw_p4 : lw_okq (⟨"ElasticKernel$Springs", "addUpSoftness", "(LElasticKernel$Roster;)V"⟩, 5) := ⟨⟨by decide +kernel, by decide +kernel⟩, List.mem_of_getElem? (i := 148) (by decide +kernel), List.mem_of_getElem? (i := 335) (by decide +kernel), List.mem_of_getElem? (i := 336) (by decide +kernel)⟩
theorem lw_p5 : lw_okq (⟨"ElasticKernel$Springs", "pinPressed", "(LElasticKernel$Roster;)Z"⟩, 5) := ⟨⟨by decide +kernel, by decide +kernel⟩, List.mem_of_getElem? (i := 148) (by decide +kernel), List.mem_of_getElem? (i := 348) (by decide +kernel), List.mem_of_getElem? (i := 349) (by decide +kernel)⟩
theorem lw_p6 : lw_okq (⟨"ElasticKernel$Springs", "isTooMuchFor", "(LElasticKernel$Task;)Z"⟩, 5) := ⟨⟨by decide +kernel, by decide +kernel⟩, List.mem_of_getElem? (i := 148) (by decide +kernel), List.mem_of_getElem? (i := 352) (by decide +kernel), List.mem_of_getElem? (i := 353) (by decide +kernel)⟩
theorem lw_p7 : lw_okq (⟨"ElasticKernel$Divider", "divide", "(LElasticKernel$Natural;LElasticKernel$Natural;)V"⟩, 4) := ⟨⟨by decide +kernel, by decide +kernel⟩, List.mem_of_getElem? (i := 156) (by decide +kernel), List.mem_of_getElem? (i := 373) (by decide +kernel), List.mem_of_getElem? (i := 374) (by decide +kernel)⟩
theorem lw_p8 : lw_okq (⟨"java/lang/Throwable", "fillInStackTrace", "(I)Ljava/lang/Throwable;"⟩, 6) := ⟨⟨by decide +kernel, by decide +kernel⟩, List.mem_of_getElem? (i := 501) (by decide +kernel), List.mem_of_getElem? (i := 499) (by decide +kernel), List.mem_of_getElem? (i := 500) (by decide +kernel)⟩
theorem lw_p9 : lw_okq (⟨"ElasticKernel", "beginTick", "()V"⟩, 8) := ⟨⟨by decide +kernel, by decide +kernel⟩, List.mem_of_getElem? (i := 17) (by decide +kernel), List.mem_of_getElem? (i := 531) (by decide +kernel), List.mem_of_getElem? (i := 532) (by decide +kernel)⟩
theorem lw_p10 : lw_okq (⟨"ElasticKernel", "dismissLeavers", "()V"⟩, 8) := ⟨⟨by decide +kernel, by decide +kernel⟩, List.mem_of_getElem? (i := 17) (by decide +kernel), List.mem_of_getElem? (i := 535) (by decide +kernel), List.mem_of_getElem? (i := 536) (by decide +kernel)⟩
theorem lw_p11 : lw_okq (⟨"ElasticKernel", "countIfLate", "(LElasticKernel$Task;)V"⟩, 8) := ⟨⟨by decide +kernel, by decide +kernel⟩, List.mem_of_getElem? (i := 17) (by decide +kernel), List.mem_of_getElem? (i := 539) (by decide +kernel), List.mem_of_getElem? (i := 540) (by decide +kernel)⟩
theorem lw_p12 : lw_okq (⟨"ElasticKernel$Task", "finish", "(I)V"⟩, 15) := ⟨⟨by decide +kernel, by decide +kernel⟩, List.mem_of_getElem? (i := 32) (by decide +kernel), List.mem_of_getElem? (i := 547) (by decide +kernel), List.mem_of_getElem? (i := 548) (by decide +kernel)⟩
theorem lw_p13 : lw_okq (⟨"ElasticKernel", "mostUrgent", "()LElasticKernel$Task;"⟩, 8) := ⟨⟨by decide +kernel, by decide +kernel⟩, List.mem_of_getElem? (i := 17) (by decide +kernel), List.mem_of_getElem? (i := 551) (by decide +kernel), List.mem_of_getElem? (i := 552) (by decide +kernel)⟩
theorem lw_p14 : lw_okq (⟨"ElasticKernel", "ticksAlike", "(LElasticKernel$Task;)I"⟩, 8) := ⟨⟨by decide +kernel, by decide +kernel⟩, List.mem_of_getElem? (i := 17) (by decide +kernel), List.mem_of_getElem? (i := 555) (by decide +kernel), List.mem_of_getElem? (i := 556) (by decide +kernel)⟩
theorem lw_p15 : lw_okq (⟨"ElasticKernelModel", "be", "(IJ)V"⟩, 25) := ⟨⟨by decide +kernel, by decide +kernel⟩, List.mem_of_getElem? (i := 566) (by decide +kernel), List.mem_of_getElem? (i := 572) (by decide +kernel), List.mem_of_getElem? (i := 573) (by decide +kernel)⟩
def lw_privs_1 : List (MethodName × Nat) := [(⟨"ElasticKernel", "isRefused", "(I)Z"⟩, 8), (⟨"ElasticKernel", "solve", "()V"⟩, 8), (⟨"ElasticKernel$Springs", "unpin", "(LElasticKernel$Roster;)V"⟩, 5), (⟨"ElasticKernel$Springs", "addUp", "(LElasticKernel$Roster;)V"⟩, 5), (⟨"ElasticKernel$Springs", "addUpSoftness", "(LElasticKernel$Roster;)V"⟩, 5), (⟨"ElasticKernel$Springs", "pinPressed", "(LElasticKernel$Roster;)Z"⟩, 5), (⟨"ElasticKernel$Springs", "isTooMuchFor", "(LElasticKernel$Task;)Z"⟩, 5), (⟨"ElasticKernel$Divider", "divide", "(LElasticKernel$Natural;LElasticKernel$Natural;)V"⟩, 4), (⟨"java/lang/Throwable", "fillInStackTrace", "(I)Ljava/lang/Throwable;"⟩, 6), (⟨"ElasticKernel", "beginTick", "()V"⟩, 8), (⟨"ElasticKernel", "dismissLeavers", "()V"⟩, 8), (⟨"ElasticKernel", "countIfLate", "(LElasticKernel$Task;)V"⟩, 8), (⟨"ElasticKernel$Task", "finish", "(I)V"⟩, 15), (⟨"ElasticKernel", "mostUrgent", "()LElasticKernel$Task;"⟩, 8), (⟨"ElasticKernel", "ticksAlike", "(LElasticKernel$Task;)I"⟩, 8), (⟨"ElasticKernelModel", "be", "(IJ)V"⟩, 25)]
theorem lw_r1 : ∀ q ∈ lw_privs_1, lw_okq q := List.forall_mem_cons.mpr ⟨lw_p0, List.forall_mem_cons.mpr ⟨lw_p1, List.forall_mem_cons.mpr ⟨lw_p2, List.forall_mem_cons.mpr ⟨lw_p3, List.forall_mem_cons.mpr ⟨lw_p4, List.forall_mem_cons.mpr ⟨lw_p5, List.forall_mem_cons.mpr ⟨lw_p6, List.forall_mem_cons.mpr ⟨lw_p7, List.forall_mem_cons.mpr ⟨lw_p8, List.forall_mem_cons.mpr ⟨lw_p9, List.forall_mem_cons.mpr ⟨lw_p10, List.forall_mem_cons.mpr ⟨lw_p11, List.forall_mem_cons.mpr ⟨lw_p12, List.forall_mem_cons.mpr ⟨lw_p13, List.forall_mem_cons.mpr ⟨lw_p14, List.forall_mem_cons.mpr ⟨lw_p15, fun _ h => absurd h List.not_mem_nil⟩⟩⟩⟩⟩⟩⟩⟩⟩⟩⟩⟩⟩⟩⟩⟩
theorem lw_p16 : lw_okq (⟨"ElasticKernelModel", "find", "(I)I"⟩, 25) := ⟨⟨by decide +kernel, by decide +kernel⟩, List.mem_of_getElem? (i := 566) (by decide +kernel), List.mem_of_getElem? (i := 662) (by decide +kernel), List.mem_of_getElem? (i := 663) (by decide +kernel)⟩
theorem lw_p17 : lw_okq (⟨"ElasticKernelModel", "move", "(II)V"⟩, 25) := ⟨⟨by decide +kernel, by decide +kernel⟩, List.mem_of_getElem? (i := 566) (by decide +kernel), List.mem_of_getElem? (i := 666) (by decide +kernel), List.mem_of_getElem? (i := 667) (by decide +kernel)⟩
theorem lw_p18 : lw_okq (⟨"ElasticKernelModel", "copy", "(II)V"⟩, 25) := ⟨⟨by decide +kernel, by decide +kernel⟩, List.mem_of_getElem? (i := 566) (by decide +kernel), List.mem_of_getElem? (i := 670) (by decide +kernel), List.mem_of_getElem? (i := 671) (by decide +kernel)⟩
theorem lw_p19 : lw_okq (⟨"ElasticKernelModel", "tooMuch", "(I)I"⟩, 25) := ⟨⟨by decide +kernel, by decide +kernel⟩, List.mem_of_getElem? (i := 566) (by decide +kernel), List.mem_of_getElem? (i := 674) (by decide +kernel), List.mem_of_getElem? (i := 675) (by decide +kernel)⟩
theorem lw_p20 : lw_okq (⟨"ElasticKernelModel", "none", "()V"⟩, 25) := ⟨⟨by decide +kernel, by decide +kernel⟩, List.mem_of_getElem? (i := 566) (by decide +kernel), List.mem_of_getElem? (i := 678) (by decide +kernel), List.mem_of_getElem? (i := 679) (by decide +kernel)⟩
theorem lw_p21 : lw_okq (⟨"ElasticKernelModel", "addFraction", "(II)V"⟩, 25) := ⟨⟨by decide +kernel, by decide +kernel⟩, List.mem_of_getElem? (i := 566) (by decide +kernel), List.mem_of_getElem? (i := 682) (by decide +kernel), List.mem_of_getElem? (i := 683) (by decide +kernel)⟩
theorem lw_p22 : lw_okq (⟨"ElasticKernelModel", "times", "(II)V"⟩, 25) := ⟨⟨by decide +kernel, by decide +kernel⟩, List.mem_of_getElem? (i := 566) (by decide +kernel), List.mem_of_getElem? (i := 686) (by decide +kernel), List.mem_of_getElem? (i := 687) (by decide +kernel)⟩
theorem lw_p23 : lw_okq (⟨"ElasticKernelModel", "add", "(IIZ)V"⟩, 25) := ⟨⟨by decide +kernel, by decide +kernel⟩, List.mem_of_getElem? (i := 566) (by decide +kernel), List.mem_of_getElem? (i := 690) (by decide +kernel), List.mem_of_getElem? (i := 691) (by decide +kernel)⟩
theorem lw_p24 : lw_okq (⟨"ElasticKernelModel", "isAbove", "(I)Z"⟩, 25) := ⟨⟨by decide +kernel, by decide +kernel⟩, List.mem_of_getElem? (i := 566) (by decide +kernel), List.mem_of_getElem? (i := 695) (by decide +kernel), List.mem_of_getElem? (i := 696) (by decide +kernel)⟩
theorem lw_p25 : lw_okq (⟨"ElasticKernelModel", "compare", "(II)I"⟩, 25) := ⟨⟨by decide +kernel, by decide +kernel⟩, List.mem_of_getElem? (i := 566) (by decide +kernel), List.mem_of_getElem? (i := 699) (by decide +kernel), List.mem_of_getElem? (i := 700) (by decide +kernel)⟩
theorem lw_p26 : lw_okq (⟨"ElasticKernelModel", "remove", "(I)V"⟩, 25) := ⟨⟨by decide +kernel, by decide +kernel⟩, List.mem_of_getElem? (i := 566) (by decide +kernel), List.mem_of_getElem? (i := 703) (by decide +kernel), List.mem_of_getElem? (i := 704) (by decide +kernel)⟩
theorem lw_p27 : lw_okq (⟨"ElasticKernelModel", "solve", "()V"⟩, 25) := ⟨⟨by decide +kernel, by decide +kernel⟩, List.mem_of_getElem? (i := 566) (by decide +kernel), List.mem_of_getElem? (i := 707) (by decide +kernel), List.mem_of_getElem? (i := 708) (by decide +kernel)⟩
theorem lw_p28 : lw_okq (⟨"ElasticKernelModel", "counts", "(I)Z"⟩, 25) := ⟨⟨by decide +kernel, by decide +kernel⟩, List.mem_of_getElem? (i := 566) (by decide +kernel), List.mem_of_getElem? (i := 711) (by decide +kernel), List.mem_of_getElem? (i := 712) (by decide +kernel)⟩
theorem lw_p29 : lw_okq (⟨"ElasticKernelModel", "rankOf", "(I)I"⟩, 25) := ⟨⟨by decide +kernel, by decide +kernel⟩, List.mem_of_getElem? (i := 566) (by decide +kernel), List.mem_of_getElem? (i := 716) (by decide +kernel), List.mem_of_getElem? (i := 717) (by decide +kernel)⟩
theorem lw_p30 : lw_okq (⟨"ElasticKernelModel", "isSofter", "(II)Z"⟩, 25) := ⟨⟨by decide +kernel, by decide +kernel⟩, List.mem_of_getElem? (i := 566) (by decide +kernel), List.mem_of_getElem? (i := 720) (by decide +kernel), List.mem_of_getElem? (i := 721) (by decide +kernel)⟩
theorem lw_p31 : lw_okq (⟨"ElasticKernelModel", "tryLeast", "(I)Z"⟩, 25) := ⟨⟨by decide +kernel, by decide +kernel⟩, List.mem_of_getElem? (i := 566) (by decide +kernel), List.mem_of_getElem? (i := 724) (by decide +kernel), List.mem_of_getElem? (i := 725) (by decide +kernel)⟩
def lw_privs_2 : List (MethodName × Nat) := [(⟨"ElasticKernelModel", "find", "(I)I"⟩, 25), (⟨"ElasticKernelModel", "move", "(II)V"⟩, 25), (⟨"ElasticKernelModel", "copy", "(II)V"⟩, 25), (⟨"ElasticKernelModel", "tooMuch", "(I)I"⟩, 25), (⟨"ElasticKernelModel", "none", "()V"⟩, 25), (⟨"ElasticKernelModel", "addFraction", "(II)V"⟩, 25), (⟨"ElasticKernelModel", "times", "(II)V"⟩, 25), (⟨"ElasticKernelModel", "add", "(IIZ)V"⟩, 25), (⟨"ElasticKernelModel", "isAbove", "(I)Z"⟩, 25), (⟨"ElasticKernelModel", "compare", "(II)I"⟩, 25), (⟨"ElasticKernelModel", "remove", "(I)V"⟩, 25), (⟨"ElasticKernelModel", "solve", "()V"⟩, 25), (⟨"ElasticKernelModel", "counts", "(I)Z"⟩, 25), (⟨"ElasticKernelModel", "rankOf", "(I)I"⟩, 25), (⟨"ElasticKernelModel", "isSofter", "(II)Z"⟩, 25), (⟨"ElasticKernelModel", "tryLeast", "(I)Z"⟩, 25)]
theorem lw_r2 : ∀ q ∈ lw_privs_2, lw_okq q := List.forall_mem_cons.mpr ⟨lw_p16, List.forall_mem_cons.mpr ⟨lw_p17, List.forall_mem_cons.mpr ⟨lw_p18, List.forall_mem_cons.mpr ⟨lw_p19, List.forall_mem_cons.mpr ⟨lw_p20, List.forall_mem_cons.mpr ⟨lw_p21, List.forall_mem_cons.mpr ⟨lw_p22, List.forall_mem_cons.mpr ⟨lw_p23, List.forall_mem_cons.mpr ⟨lw_p24, List.forall_mem_cons.mpr ⟨lw_p25, List.forall_mem_cons.mpr ⟨lw_p26, List.forall_mem_cons.mpr ⟨lw_p27, List.forall_mem_cons.mpr ⟨lw_p28, List.forall_mem_cons.mpr ⟨lw_p29, List.forall_mem_cons.mpr ⟨lw_p30, List.forall_mem_cons.mpr ⟨lw_p31, fun _ h => absurd h List.not_mem_nil⟩⟩⟩⟩⟩⟩⟩⟩⟩⟩⟩⟩⟩⟩⟩⟩
theorem lw_p32 : lw_okq (⟨"ElasticKernelModel", "product", "(III)V"⟩, 25) := ⟨⟨by decide +kernel, by decide +kernel⟩, List.mem_of_getElem? (i := 566) (by decide +kernel), List.mem_of_getElem? (i := 728) (by decide +kernel), List.mem_of_getElem? (i := 729) (by decide +kernel)⟩
theorem lw_p33 : lw_okq (⟨"ElasticKernelModel", "fits", "(I)Z"⟩, 25) := ⟨⟨by decide +kernel, by decide +kernel⟩, List.mem_of_getElem? (i := 566) (by decide +kernel), List.mem_of_getElem? (i := 732) (by decide +kernel), List.mem_of_getElem? (i := 733) (by decide +kernel)⟩
theorem lw_p34 : lw_okq (⟨"ElasticKernelModel", "press", "(II)V"⟩, 25) := ⟨⟨by decide +kernel, by decide +kernel⟩, List.mem_of_getElem? (i := 566) (by decide +kernel), List.mem_of_getElem? (i := 736) (by decide +kernel), List.mem_of_getElem? (i := 737) (by decide +kernel)⟩
theorem lw_p35 : lw_okq (⟨"ElasticKernelModel", "settle", "(I)V"⟩, 25) := ⟨⟨by decide +kernel, by decide +kernel⟩, List.mem_of_getElem? (i := 566) (by decide +kernel), List.mem_of_getElem? (i := 740) (by decide +kernel), List.mem_of_getElem? (i := 741) (by decide +kernel)⟩
theorem lw_p36 : lw_okq (⟨"ElasticKernelModel", "findInstant", "()V"⟩, 25) := ⟨⟨by decide +kernel, by decide +kernel⟩, List.mem_of_getElem? (i := 566) (by decide +kernel), List.mem_of_getElem? (i := 744) (by decide +kernel), List.mem_of_getElem? (i := 745) (by decide +kernel)⟩
theorem lw_p37 : lw_okq (⟨"ElasticKernelModel", "step", "()I"⟩, 25) := ⟨⟨by decide +kernel, by decide +kernel⟩, List.mem_of_getElem? (i := 566) (by decide +kernel), List.mem_of_getElem? (i := 764) (by decide +kernel), List.mem_of_getElem? (i := 765) (by decide +kernel)⟩
theorem lw_p38 : lw_okq (⟨"ElasticKernelModel", "release", "(IZ)V"⟩, 25) := ⟨⟨by decide +kernel, by decide +kernel⟩, List.mem_of_getElem? (i := 566) (by decide +kernel), List.mem_of_getElem? (i := 768) (by decide +kernel), List.mem_of_getElem? (i := 769) (by decide +kernel)⟩
theorem lw_p39 : lw_okq (⟨"ElasticKernelModel", "wordOf", "(III)I"⟩, 25) := ⟨⟨by decide +kernel, by decide +kernel⟩, List.mem_of_getElem? (i := 566) (by decide +kernel), List.mem_of_getElem? (i := 780) (by decide +kernel), List.mem_of_getElem? (i := 781) (by decide +kernel)⟩
theorem lw_p40 : lw_okq (⟨"ElasticKernelModel", "reduce", "(II)V"⟩, 25) := ⟨⟨by decide +kernel, by decide +kernel⟩, List.mem_of_getElem? (i := 566) (by decide +kernel), List.mem_of_getElem? (i := 784) (by decide +kernel), List.mem_of_getElem? (i := 785) (by decide +kernel)⟩
theorem lw_p41 : lw_okq (⟨"ElasticKernelModel", "isZero", "(I)Z"⟩, 25) := ⟨⟨by decide +kernel, by decide +kernel⟩, List.mem_of_getElem? (i := 566) (by decide +kernel), List.mem_of_getElem? (i := 788) (by decide +kernel), List.mem_of_getElem? (i := 789) (by decide +kernel)⟩
theorem lw_p42 : lw_okq (⟨"ElasticKernelModel", "isEven", "(I)Z"⟩, 25) := ⟨⟨by decide +kernel, by decide +kernel⟩, List.mem_of_getElem? (i := 566) (by decide +kernel), List.mem_of_getElem? (i := 792) (by decide +kernel), List.mem_of_getElem? (i := 793) (by decide +kernel)⟩
theorem lw_p43 : lw_okq (⟨"ElasticKernelModel", "halve", "(I)V"⟩, 25) := ⟨⟨by decide +kernel, by decide +kernel⟩, List.mem_of_getElem? (i := 566) (by decide +kernel), List.mem_of_getElem? (i := 796) (by decide +kernel), List.mem_of_getElem? (i := 797) (by decide +kernel)⟩
theorem lw_p44 : lw_okq (⟨"ElasticKernelModel", "quotient", "(I)V"⟩, 25) := ⟨⟨by decide +kernel, by decide +kernel⟩, List.mem_of_getElem? (i := 566) (by decide +kernel), List.mem_of_getElem? (i := 800) (by decide +kernel), List.mem_of_getElem? (i := 801) (by decide +kernel)⟩
theorem lw_p45 : lw_okq (⟨"ElasticKernelModel", "unused", "()I"⟩, 25) := ⟨⟨by decide +kernel, by decide +kernel⟩, List.mem_of_getElem? (i := 566) (by decide +kernel), List.mem_of_getElem? (i := 812) (by decide +kernel), List.mem_of_getElem? (i := 813) (by decide +kernel)⟩
def lw_privs_3 : List (MethodName × Nat) := [(⟨"ElasticKernelModel", "product", "(III)V"⟩, 25), (⟨"ElasticKernelModel", "fits", "(I)Z"⟩, 25), (⟨"ElasticKernelModel", "press", "(II)V"⟩, 25), (⟨"ElasticKernelModel", "settle", "(I)V"⟩, 25), (⟨"ElasticKernelModel", "findInstant", "()V"⟩, 25), (⟨"ElasticKernelModel", "step", "()I"⟩, 25), (⟨"ElasticKernelModel", "release", "(IZ)V"⟩, 25), (⟨"ElasticKernelModel", "wordOf", "(III)I"⟩, 25), (⟨"ElasticKernelModel", "reduce", "(II)V"⟩, 25), (⟨"ElasticKernelModel", "isZero", "(I)Z"⟩, 25), (⟨"ElasticKernelModel", "isEven", "(I)Z"⟩, 25), (⟨"ElasticKernelModel", "halve", "(I)V"⟩, 25), (⟨"ElasticKernelModel", "quotient", "(I)V"⟩, 25), (⟨"ElasticKernelModel", "unused", "()I"⟩, 25)]
theorem lw_r3 : ∀ q ∈ lw_privs_3, lw_okq q := List.forall_mem_cons.mpr ⟨lw_p32, List.forall_mem_cons.mpr ⟨lw_p33, List.forall_mem_cons.mpr ⟨lw_p34, List.forall_mem_cons.mpr ⟨lw_p35, List.forall_mem_cons.mpr ⟨lw_p36, List.forall_mem_cons.mpr ⟨lw_p37, List.forall_mem_cons.mpr ⟨lw_p38, List.forall_mem_cons.mpr ⟨lw_p39, List.forall_mem_cons.mpr ⟨lw_p40, List.forall_mem_cons.mpr ⟨lw_p41, List.forall_mem_cons.mpr ⟨lw_p42, List.forall_mem_cons.mpr ⟨lw_p43, List.forall_mem_cons.mpr ⟨lw_p44, List.forall_mem_cons.mpr ⟨lw_p45, fun _ h => absurd h List.not_mem_nil⟩⟩⟩⟩⟩⟩⟩⟩⟩⟩⟩⟩⟩⟩
def lw_privs : List (MethodName × Nat) := lw_privs_1 ++ (lw_privs_2 ++ (lw_privs_3))
def lw_tbl : List Cond := k2_sels lw_privs ++ tables_1
theorem lw_privs_ok : ∀ q ∈ lw_privs, lw_okq q := by
  show ∀ q ∈ lw_privs_1 ++ (lw_privs_2 ++ (lw_privs_3)), lw_okq q
  exact List.forall_mem_append.mpr ⟨lw_r1, List.forall_mem_append.mpr ⟨lw_r2, lw_r3⟩⟩
end
section
/-- the tables' words that a call may hand on -/
def lw_g : List Cond := lw_tbl.filter goodWord
theorem lw_gq {w : Cond} (h : w ∈ tables_1) (hg : goodWord w = true) : w ∈ lw_g := List.mem_filter.mpr ⟨List.mem_append_right _ h, hg⟩
theorem lw_gp {w : Cond} (h : w ∈ k2_sels lw_privs) (hg : goodWord w = true) : w ∈ lw_g := List.mem_filter.mpr ⟨List.mem_append_left _ h, hg⟩
theorem lw_gg {w : Cond} (h : w ∈ lw_g) : (w.onTables && w.keeps) = true ∨ ∃ ty, w = .arrayClass ty := good_of_word (List.mem_filter.mp h).2
theorem lw_t1 {w : Cond} (h : w ∈ tables_1_1) (hg : goodWord w = true) : w ∈ lw_g := lw_gq (List.mem_append_left _ h) hg
theorem lw_u1 {w : Cond} (h : w ∈ tables_1_1) : w ∈ lw_tbl := List.mem_append_right _ (List.mem_append_left _ h)
theorem lw_t2 {w : Cond} (h : w ∈ tables_1_2) (hg : goodWord w = true) : w ∈ lw_g := lw_gq (List.mem_append_right _ (List.mem_append_left _ h)) hg
theorem lw_u2 {w : Cond} (h : w ∈ tables_1_2) : w ∈ lw_tbl := List.mem_append_right _ (List.mem_append_right _ (List.mem_append_left _ h))
theorem lw_t3 {w : Cond} (h : w ∈ tables_1_3) (hg : goodWord w = true) : w ∈ lw_g := lw_gq (List.mem_append_right _ (List.mem_append_right _ (List.mem_append_left _ h))) hg
theorem lw_u3 {w : Cond} (h : w ∈ tables_1_3) : w ∈ lw_tbl := List.mem_append_right _ (List.mem_append_right _ (List.mem_append_right _ (List.mem_append_left _ h)))
theorem lw_t4 {w : Cond} (h : w ∈ tables_1_4) (hg : goodWord w = true) : w ∈ lw_g := lw_gq (List.mem_append_right _ (List.mem_append_right _ (List.mem_append_right _ (h)))) hg
theorem lw_u4 {w : Cond} (h : w ∈ tables_1_4) : w ∈ lw_tbl := List.mem_append_right _ (List.mem_append_right _ (List.mem_append_right _ (List.mem_append_right _ (h))))
set_option maxRecDepth 100000 in
theorem q_0 : (Jvm.Cond.initialized "ElasticKernelLaw") ∈ lw_g := lw_t1 (List.mem_of_getElem? (i := 0) rfl) rfl
set_option maxRecDepth 100000 in
theorem q_1 : (Jvm.Cond.initialized "ElasticKernel") ∈ lw_g := lw_t1 (List.mem_of_getElem? (i := 1) rfl) rfl
set_option maxRecDepth 100000 in
theorem q_2 : (Jvm.Cond.initialized "ElasticKernel$Roster") ∈ lw_g := lw_t1 (List.mem_of_getElem? (i := 2) rfl) rfl
set_option maxRecDepth 100000 in
theorem q_3 : (Jvm.Cond.initialized "ElasticKernel$Task") ∈ lw_g := lw_t1 (List.mem_of_getElem? (i := 3) rfl) rfl
set_option maxRecDepth 100000 in
theorem q_4 : (Jvm.Cond.initialized "ElasticKernel$Fraction") ∈ lw_g := lw_t1 (List.mem_of_getElem? (i := 4) rfl) rfl
set_option maxRecDepth 100000 in
theorem q_5 : (Jvm.Cond.initialized "ElasticKernel$Natural") ∈ lw_g := lw_t1 (List.mem_of_getElem? (i := 5) rfl) rfl
set_option maxRecDepth 100000 in
theorem q_6 : (Jvm.Cond.initialized "ElasticKernel$Springs") ∈ lw_g := lw_t1 (List.mem_of_getElem? (i := 6) rfl) rfl
set_option maxRecDepth 100000 in
theorem q_7 : (Jvm.Cond.initialized "ElasticKernel$Divider") ∈ lw_g := lw_t1 (List.mem_of_getElem? (i := 7) rfl) rfl
set_option maxRecDepth 100000 in
theorem q_8 : (Jvm.Cond.initialized "ElasticKernelModel") ∈ lw_g := lw_t1 (List.mem_of_getElem? (i := 8) rfl) rfl
set_option maxRecDepth 100000 in
theorem q_9 : (Jvm.Cond.initialized "java/lang/Math") ∈ lw_g := lw_t1 (List.mem_of_getElem? (i := 9) rfl) rfl
set_option maxRecDepth 100000 in
theorem q_10 : (Jvm.Cond.initialized "java/lang/System") ∈ lw_g := lw_t1 (List.mem_of_getElem? (i := 10) rfl) rfl
set_option maxRecDepth 100000 in
theorem q_11 : (Jvm.Cond.initialized "java/lang/Integer") ∈ lw_g := lw_t1 (List.mem_of_getElem? (i := 11) rfl) rfl
set_option maxRecDepth 100000 in
theorem q_12 : (Jvm.Cond.initialized "java/lang/Throwable") ∈ lw_g := lw_t1 (List.mem_of_getElem? (i := 12) rfl) rfl
set_option maxRecDepth 100000 in
theorem q_13 : (Jvm.Cond.initialized "java/lang/Exception") ∈ lw_g := lw_t1 (List.mem_of_getElem? (i := 13) rfl) rfl
set_option maxRecDepth 100000 in
theorem q_14 : (Jvm.Cond.initialized "java/lang/RuntimeException") ∈ lw_g := lw_t1 (List.mem_of_getElem? (i := 14) rfl) rfl
set_option maxRecDepth 100000 in
theorem q_15 : (Jvm.Cond.initialized "java/lang/IllegalArgumentException") ∈ lw_g := lw_t1 (List.mem_of_getElem? (i := 15) rfl) rfl
set_option maxRecDepth 100000 in
theorem q_16 : (Jvm.Cond.classLink "ElasticKernelLaw" (8 : Nat) "ElasticKernel") ∈ lw_g := lw_t1 (List.mem_of_getElem? (i := 16) rfl) rfl
set_option maxRecDepth 100000 in
theorem q_17 : (Jvm.Cond.instantiable "ElasticKernel" (8 : Nat)) ∈ lw_g := lw_t1 (List.mem_of_getElem? (i := 17) rfl) rfl
set_option maxRecDepth 100000 in
theorem q_18 : (Jvm.Cond.methodLink "ElasticKernelLaw" (15 : Nat) ({ cls := "ElasticKernel", name := "<init>", desc := "()V" } : Jvm.MethodName)) ∈ lw_g := lw_t1 (List.mem_of_getElem? (i := 18) rfl) rfl
set_option maxRecDepth 100000 in
theorem q_19 : (Jvm.Cond.instanceMethod ({ cls := "ElasticKernel", name := "<init>", desc := "()V" } : Jvm.MethodName)) ∈ lw_g := lw_t1 (List.mem_of_getElem? (i := 19) rfl) rfl
set_option maxRecDepth 100000 in
theorem q_20 : (Jvm.Cond.code ({ cls := "ElasticKernel", name := "<init>", desc := "()V" } : Jvm.MethodName) prog_1_method_1_code (1 : Nat) (Option.none : Option Jvm.ClassFile.FieldType)) ∈ lw_g := lw_t1 (List.mem_of_getElem? (i := 20) rfl) rfl
set_option maxRecDepth 100000 in
theorem q_21 : (Jvm.Cond.methodLink "ElasticKernel" (1 : Nat) ({ cls := "java/lang/Object", name := "<init>", desc := "()V" } : Jvm.MethodName)) ∈ lw_g := lw_t1 (List.mem_of_getElem? (i := 21) rfl) rfl
set_option maxRecDepth 100000 in
theorem q_22 : (Jvm.Cond.instanceMethod ({ cls := "java/lang/Object", name := "<init>", desc := "()V" } : Jvm.MethodName)) ∈ lw_g := lw_t1 (List.mem_of_getElem? (i := 22) rfl) rfl
set_option maxRecDepth 100000 in
theorem q_23 : (Jvm.Cond.code ({ cls := "java/lang/Object", name := "<init>", desc := "()V" } : Jvm.MethodName) object_method_1_code (1 : Nat) (Option.none : Option Jvm.ClassFile.FieldType)) ∈ lw_g := lw_t1 (List.mem_of_getElem? (i := 23) rfl) rfl
set_option maxRecDepth 100000 in
theorem q_24 : (Jvm.Cond.classLink "ElasticKernel" (7 : Nat) "ElasticKernel$Roster") ∈ lw_g := lw_t1 (List.mem_of_getElem? (i := 24) rfl) rfl
set_option maxRecDepth 100000 in
theorem q_25 : (Jvm.Cond.instantiable "ElasticKernel$Roster" (2 : Nat)) ∈ lw_g := lw_t1 (List.mem_of_getElem? (i := 25) rfl) rfl
set_option maxRecDepth 100000 in
theorem q_26 : (Jvm.Cond.methodLink "ElasticKernel" (9 : Nat) ({ cls := "ElasticKernel$Roster", name := "<init>", desc := "()V" } : Jvm.MethodName)) ∈ lw_g := lw_t1 (List.mem_of_getElem? (i := 26) rfl) rfl
set_option maxRecDepth 100000 in
theorem q_27 : (Jvm.Cond.instanceMethod ({ cls := "ElasticKernel$Roster", name := "<init>", desc := "()V" } : Jvm.MethodName)) ∈ lw_g := lw_t1 (List.mem_of_getElem? (i := 27) rfl) rfl
set_option maxRecDepth 100000 in
theorem q_28 : (Jvm.Cond.code ({ cls := "ElasticKernel$Roster", name := "<init>", desc := "()V" } : Jvm.MethodName) prog_5_method_1_code (2 : Nat) (Option.none : Option Jvm.ClassFile.FieldType)) ∈ lw_g := lw_t1 (List.mem_of_getElem? (i := 28) rfl) rfl
set_option maxRecDepth 100000 in
theorem q_29 : (Jvm.Cond.methodLink "ElasticKernel$Roster" (3 : Nat) ({ cls := "java/lang/Object", name := "<init>", desc := "()V" } : Jvm.MethodName)) ∈ lw_g := lw_t1 (List.mem_of_getElem? (i := 29) rfl) rfl
set_option maxRecDepth 100000 in
theorem q_30 : (Jvm.Cond.classLink "ElasticKernel$Roster" (9 : Nat) "ElasticKernel$Task") ∈ lw_g := lw_t1 (List.mem_of_getElem? (i := 30) rfl) rfl
set_option maxRecDepth 100000 in
theorem q_32 : (Jvm.Cond.instantiable "ElasticKernel$Task" (15 : Nat)) ∈ lw_g := lw_t1 (List.mem_of_getElem? (i := 32) rfl) rfl
set_option maxRecDepth 100000 in
theorem q_33 : (Jvm.Cond.methodLink "ElasticKernel$Roster" (17 : Nat) ({ cls := "ElasticKernel$Task", name := "<init>", desc := "()V" } : Jvm.MethodName)) ∈ lw_g := lw_t1 (List.mem_of_getElem? (i := 33) rfl) rfl
set_option maxRecDepth 100000 in
theorem q_34 : (Jvm.Cond.instanceMethod ({ cls := "ElasticKernel$Task", name := "<init>", desc := "()V" } : Jvm.MethodName)) ∈ lw_g := lw_t1 (List.mem_of_getElem? (i := 34) rfl) rfl
set_option maxRecDepth 100000 in
theorem q_35 : (Jvm.Cond.code ({ cls := "ElasticKernel$Task", name := "<init>", desc := "()V" } : Jvm.MethodName) prog_7_method_1_code (1 : Nat) (Option.none : Option Jvm.ClassFile.FieldType)) ∈ lw_g := lw_t1 (List.mem_of_getElem? (i := 35) rfl) rfl
set_option maxRecDepth 100000 in
theorem q_36 : (Jvm.Cond.methodLink "ElasticKernel$Task" (3 : Nat) ({ cls := "java/lang/Object", name := "<init>", desc := "()V" } : Jvm.MethodName)) ∈ lw_g := lw_t1 (List.mem_of_getElem? (i := 36) rfl) rfl
set_option maxRecDepth 100000 in
theorem q_37 : (Jvm.Cond.classLink "ElasticKernel$Task" (9 : Nat) "ElasticKernel$Fraction") ∈ lw_g := lw_t1 (List.mem_of_getElem? (i := 37) rfl) rfl
set_option maxRecDepth 100000 in
theorem q_38 : (Jvm.Cond.instantiable "ElasticKernel$Fraction" (2 : Nat)) ∈ lw_g := lw_t1 (List.mem_of_getElem? (i := 38) rfl) rfl
set_option maxRecDepth 100000 in
theorem q_39 : (Jvm.Cond.methodLink "ElasticKernel$Task" (11 : Nat) ({ cls := "ElasticKernel$Fraction", name := "<init>", desc := "()V" } : Jvm.MethodName)) ∈ lw_g := lw_t1 (List.mem_of_getElem? (i := 39) rfl) rfl
set_option maxRecDepth 100000 in
theorem q_40 : (Jvm.Cond.instanceMethod ({ cls := "ElasticKernel$Fraction", name := "<init>", desc := "()V" } : Jvm.MethodName)) ∈ lw_g := lw_t1 (List.mem_of_getElem? (i := 40) rfl) rfl
set_option maxRecDepth 100000 in
theorem q_41 : (Jvm.Cond.code ({ cls := "ElasticKernel$Fraction", name := "<init>", desc := "()V" } : Jvm.MethodName) prog_3_method_1_code (1 : Nat) (Option.none : Option Jvm.ClassFile.FieldType)) ∈ lw_g := lw_t1 (List.mem_of_getElem? (i := 41) rfl) rfl
set_option maxRecDepth 100000 in
theorem q_42 : (Jvm.Cond.methodLink "ElasticKernel$Fraction" (1 : Nat) ({ cls := "java/lang/Object", name := "<init>", desc := "()V" } : Jvm.MethodName)) ∈ lw_g := lw_t1 (List.mem_of_getElem? (i := 42) rfl) rfl
set_option maxRecDepth 100000 in
theorem q_43 : (Jvm.Cond.classLink "ElasticKernel$Fraction" (7 : Nat) "ElasticKernel$Natural") ∈ lw_g := lw_t1 (List.mem_of_getElem? (i := 43) rfl) rfl
set_option maxRecDepth 100000 in
theorem q_44 : (Jvm.Cond.instantiable "ElasticKernel$Natural" (1 : Nat)) ∈ lw_g := lw_t1 (List.mem_of_getElem? (i := 44) rfl) rfl
set_option maxRecDepth 100000 in
theorem q_45 : (Jvm.Cond.methodLink "ElasticKernel$Fraction" (9 : Nat) ({ cls := "ElasticKernel$Natural", name := "<init>", desc := "()V" } : Jvm.MethodName)) ∈ lw_g := lw_t1 (List.mem_of_getElem? (i := 45) rfl) rfl
set_option maxRecDepth 100000 in
theorem q_46 : (Jvm.Cond.instanceMethod ({ cls := "ElasticKernel$Natural", name := "<init>", desc := "()V" } : Jvm.MethodName)) ∈ lw_g := lw_t1 (List.mem_of_getElem? (i := 46) rfl) rfl
set_option maxRecDepth 100000 in
theorem q_47 : (Jvm.Cond.code ({ cls := "ElasticKernel$Natural", name := "<init>", desc := "()V" } : Jvm.MethodName) prog_4_method_1_code (1 : Nat) (Option.none : Option Jvm.ClassFile.FieldType)) ∈ lw_g := lw_t1 (List.mem_of_getElem? (i := 47) rfl) rfl
set_option maxRecDepth 100000 in
theorem q_48 : (Jvm.Cond.methodLink "ElasticKernel$Natural" (3 : Nat) ({ cls := "java/lang/Object", name := "<init>", desc := "()V" } : Jvm.MethodName)) ∈ lw_g := lw_t1 (List.mem_of_getElem? (i := 48) rfl) rfl
set_option maxRecDepth 100000 in
theorem q_49 : (Jvm.Cond.fieldLink "ElasticKernel$Natural" (9 : Nat) "ElasticKernel$Natural" "words" "[I") ∈ lw_g := lw_t1 (List.mem_of_getElem? (i := 49) rfl) rfl
set_option maxRecDepth 100000 in
theorem q_50 : (Jvm.Cond.laysFinal "ElasticKernel$Natural" "ElasticKernel$Natural" "words" "[I") ∈ lw_g := lw_t1 (List.mem_of_getElem? (i := 50) rfl) rfl
set_option maxRecDepth 100000 in
theorem q_53 : (Jvm.Cond.arrayClass Jvm.ClassFile.FieldType.int) ∈ lw_g := lw_t1 (List.mem_of_getElem? (i := 53) rfl) rfl
set_option maxRecDepth 100000 in
theorem q_54 : (Jvm.Cond.methodLink "ElasticKernel$Fraction" (19 : Nat) ({ cls := "ElasticKernel$Natural", name := "set", desc := "(I)V" } : Jvm.MethodName)) ∈ lw_g := lw_t1 (List.mem_of_getElem? (i := 54) rfl) rfl
set_option maxRecDepth 100000 in
theorem q_55 : (Jvm.Cond.instanceMethod ({ cls := "ElasticKernel$Natural", name := "set", desc := "(I)V" } : Jvm.MethodName)) ∈ lw_g := lw_t1 (List.mem_of_getElem? (i := 55) rfl) rfl
set_option maxRecDepth 100000 in
theorem q_56 : (Jvm.Cond.selects "ElasticKernel$Natural" ({ cls := "ElasticKernel$Natural", name := "set", desc := "(I)V" } : Jvm.MethodName) ({ cls := "ElasticKernel$Natural", name := "set", desc := "(I)V" } : Jvm.MethodName)) ∈ lw_g := lw_t1 (List.mem_of_getElem? (i := 56) rfl) rfl
set_option maxRecDepth 100000 in
theorem q_57 : (Jvm.Cond.code ({ cls := "ElasticKernel$Natural", name := "set", desc := "(I)V" } : Jvm.MethodName) prog_4_method_5_code (3 : Nat) (Option.none : Option Jvm.ClassFile.FieldType)) ∈ lw_g := lw_t1 (List.mem_of_getElem? (i := 57) rfl) rfl
set_option maxRecDepth 100000 in
theorem q_58 : (Jvm.Cond.constant "ElasticKernel$Natural" (23 : Nat) (16777215 : Int32)) ∈ lw_g := lw_t1 (List.mem_of_getElem? (i := 58) rfl) rfl
set_option maxRecDepth 100000 in
theorem q_59 : (Jvm.Cond.fieldLink "ElasticKernel$Fraction" (10 : Nat) "ElasticKernel$Fraction" "above" "LElasticKernel$Natural;") ∈ lw_g := lw_t1 (List.mem_of_getElem? (i := 59) rfl) rfl
set_option maxRecDepth 100000 in
theorem q_63 : (Jvm.Cond.fieldLink "ElasticKernel$Fraction" (16 : Nat) "ElasticKernel$Fraction" "below" "LElasticKernel$Natural;") ∈ lw_g := lw_t1 (List.mem_of_getElem? (i := 63) rfl) rfl
set_option maxRecDepth 100000 in
theorem q_67 : (Jvm.Cond.laysFinal "ElasticKernel$Fraction" "ElasticKernel$Fraction" "above" "LElasticKernel$Natural;") ∈ lw_g := lw_t1 (List.mem_of_getElem? (i := 67) rfl) rfl
set_option maxRecDepth 100000 in
theorem q_69 : (Jvm.Cond.laysFinal "ElasticKernel$Fraction" "ElasticKernel$Fraction" "below" "LElasticKernel$Natural;") ∈ lw_g := lw_t1 (List.mem_of_getElem? (i := 69) rfl) rfl
set_option maxRecDepth 100000 in
theorem q_75 : (Jvm.Cond.fieldLink "ElasticKernel$Task" (18 : Nat) "ElasticKernel$Task" "cost" "I") ∈ lw_g := lw_t1 (List.mem_of_getElem? (i := 75) rfl) rfl
set_option maxRecDepth 100000 in
theorem q_78 : (Jvm.Cond.fieldLink "ElasticKernel$Task" (22 : Nat) "ElasticKernel$Task" "shortest" "I") ∈ lw_g := lw_t1 (List.mem_of_getElem? (i := 78) rfl) rfl
set_option maxRecDepth 100000 in
theorem q_80 : (Jvm.Cond.fieldLink "ElasticKernel$Task" (25 : Nat) "ElasticKernel$Task" "longest" "I") ∈ lw_g := lw_t1 (List.mem_of_getElem? (i := 80) rfl) rfl
set_option maxRecDepth 100000 in
theorem q_82 : (Jvm.Cond.fieldLink "ElasticKernel$Task" (28 : Nat) "ElasticKernel$Task" "stiffness" "I") ∈ lw_g := lw_t1 (List.mem_of_getElem? (i := 82) rfl) rfl
set_option maxRecDepth 100000 in
theorem q_84 : (Jvm.Cond.fieldLink "ElasticKernel$Task" (31 : Nat) "ElasticKernel$Task" "phase" "I") ∈ lw_g := lw_t1 (List.mem_of_getElem? (i := 84) rfl) rfl
set_option maxRecDepth 100000 in
theorem q_86 : (Jvm.Cond.fieldLink "ElasticKernel$Task" (34 : Nat) "ElasticKernel$Task" "period" "I") ∈ lw_g := lw_t1 (List.mem_of_getElem? (i := 86) rfl) rfl
set_option maxRecDepth 100000 in
theorem q_88 : (Jvm.Cond.fieldLink "ElasticKernel$Task" (52 : Nat) "ElasticKernel$Task" "solvedPeriod" "I") ∈ lw_g := lw_t1 (List.mem_of_getElem? (i := 88) rfl) rfl
set_option maxRecDepth 100000 in
theorem q_91 : (Jvm.Cond.fieldLink "ElasticKernel$Task" (37 : Nat) "ElasticKernel$Task" "end" "I") ∈ lw_g := lw_t1 (List.mem_of_getElem? (i := 91) rfl) rfl
set_option maxRecDepth 100000 in
theorem q_93 : (Jvm.Cond.fieldLink "ElasticKernel$Task" (40 : Nat) "ElasticKernel$Task" "needs" "I") ∈ lw_g := lw_t1 (List.mem_of_getElem? (i := 93) rfl) rfl
set_option maxRecDepth 100000 in
theorem q_95 : (Jvm.Cond.fieldLink "ElasticKernel$Task" (43 : Nat) "ElasticKernel$Task" "told" "I") ∈ lw_g := lw_t1 (List.mem_of_getElem? (i := 95) rfl) rfl
set_option maxRecDepth 100000 in
theorem q_97 : (Jvm.Cond.fieldLink "ElasticKernel$Task" (46 : Nat) "ElasticKernel$Task" "ends" "I") ∈ lw_g := lw_t1 (List.mem_of_getElem? (i := 97) rfl) rfl
set_option maxRecDepth 100000 in
theorem q_99 : (Jvm.Cond.fieldLink "ElasticKernel$Task" (49 : Nat) "ElasticKernel$Task" "latestEnd" "I") ∈ lw_g := lw_t1 (List.mem_of_getElem? (i := 99) rfl) rfl
set_option maxRecDepth 100000 in
theorem q_102 : (Jvm.Cond.fieldLink "ElasticKernel$Task" (12 : Nat) "ElasticKernel$Task" "solvedLoad" "LElasticKernel$Fraction;") ∈ lw_g := lw_t1 (List.mem_of_getElem? (i := 102) rfl) rfl
set_option maxRecDepth 100000 in
theorem q_105 : (Jvm.Cond.lays "ElasticKernel$Task" "ElasticKernel$Task" "id" "I") ∈ lw_g := lw_t1 (List.mem_of_getElem? (i := 105) rfl) rfl
set_option maxRecDepth 100000 in
theorem q_107 : (Jvm.Cond.lays "ElasticKernel$Task" "ElasticKernel$Task" "cost" "I") ∈ lw_g := lw_t1 (List.mem_of_getElem? (i := 107) rfl) rfl
set_option maxRecDepth 100000 in
theorem q_109 : (Jvm.Cond.lays "ElasticKernel$Task" "ElasticKernel$Task" "shortest" "I") ∈ lw_g := lw_t1 (List.mem_of_getElem? (i := 109) rfl) rfl
set_option maxRecDepth 100000 in
theorem q_111 : (Jvm.Cond.lays "ElasticKernel$Task" "ElasticKernel$Task" "longest" "I") ∈ lw_g := lw_t1 (List.mem_of_getElem? (i := 111) rfl) rfl
set_option maxRecDepth 100000 in
theorem q_113 : (Jvm.Cond.lays "ElasticKernel$Task" "ElasticKernel$Task" "stiffness" "I") ∈ lw_g := lw_t1 (List.mem_of_getElem? (i := 113) rfl) rfl
set_option maxRecDepth 100000 in
theorem q_115 : (Jvm.Cond.lays "ElasticKernel$Task" "ElasticKernel$Task" "phase" "I") ∈ lw_g := lw_t1 (List.mem_of_getElem? (i := 115) rfl) rfl
set_option maxRecDepth 100000 in
theorem q_117 : (Jvm.Cond.lays "ElasticKernel$Task" "ElasticKernel$Task" "period" "I") ∈ lw_g := lw_t1 (List.mem_of_getElem? (i := 117) rfl) rfl
set_option maxRecDepth 100000 in
theorem q_119 : (Jvm.Cond.lays "ElasticKernel$Task" "ElasticKernel$Task" "solvedPeriod" "I") ∈ lw_g := lw_t1 (List.mem_of_getElem? (i := 119) rfl) rfl
set_option maxRecDepth 100000 in
theorem q_121 : (Jvm.Cond.lays "ElasticKernel$Task" "ElasticKernel$Task" "end" "I") ∈ lw_g := lw_t1 (List.mem_of_getElem? (i := 121) rfl) rfl
set_option maxRecDepth 100000 in
theorem q_123 : (Jvm.Cond.lays "ElasticKernel$Task" "ElasticKernel$Task" "needs" "I") ∈ lw_g := lw_t1 (List.mem_of_getElem? (i := 123) rfl) rfl
set_option maxRecDepth 100000 in
theorem q_125 : (Jvm.Cond.lays "ElasticKernel$Task" "ElasticKernel$Task" "told" "I") ∈ lw_g := lw_t1 (List.mem_of_getElem? (i := 125) rfl) rfl
set_option maxRecDepth 100000 in
theorem q_127 : (Jvm.Cond.lays "ElasticKernel$Task" "ElasticKernel$Task" "ends" "I") ∈ lw_g := lw_t1 (List.mem_of_getElem? (i := 127) rfl) rfl
set_option maxRecDepth 100000 in
theorem q_129 : (Jvm.Cond.lays "ElasticKernel$Task" "ElasticKernel$Task" "latestEnd" "I") ∈ lw_g := lw_t1 (List.mem_of_getElem? (i := 129) rfl) rfl
set_option maxRecDepth 100000 in
theorem q_131 : (Jvm.Cond.lays "ElasticKernel$Task" "ElasticKernel$Task" "isPinned" "Z") ∈ lw_g := lw_t1 (List.mem_of_getElem? (i := 131) rfl) rfl
set_option maxRecDepth 100000 in
theorem q_133 : (Jvm.Cond.laysFinal "ElasticKernel$Task" "ElasticKernel$Task" "solvedLoad" "LElasticKernel$Fraction;") ∈ lw_g := lw_t1 (List.mem_of_getElem? (i := 133) rfl) rfl
set_option maxRecDepth 100000 in
theorem q_136 : (Jvm.Cond.fieldLink "ElasticKernel$Roster" (11 : Nat) "ElasticKernel$Roster" "row" "[LElasticKernel$Task;") ∈ lw_g := lw_t1 (List.mem_of_getElem? (i := 136) rfl) rfl
set_option maxRecDepth 100000 in
theorem q_139 : (Jvm.Cond.fieldLink "ElasticKernel$Roster" (18 : Nat) "ElasticKernel$Roster" "size" "I") ∈ lw_g := lw_t1 (List.mem_of_getElem? (i := 139) rfl) rfl
set_option maxRecDepth 100000 in
theorem q_142 : (Jvm.Cond.laysFinal "ElasticKernel$Roster" "ElasticKernel$Roster" "row" "[LElasticKernel$Task;") ∈ lw_g := lw_t1 (List.mem_of_getElem? (i := 142) rfl) rfl
set_option maxRecDepth 100000 in
theorem q_144 : (Jvm.Cond.lays "ElasticKernel$Roster" "ElasticKernel$Roster" "size" "I") ∈ lw_g := lw_t1 (List.mem_of_getElem? (i := 144) rfl) rfl
set_option maxRecDepth 100000 in
theorem q_147 : (Jvm.Cond.classLink "ElasticKernel" (16 : Nat) "ElasticKernel$Springs") ∈ lw_g := lw_t1 (List.mem_of_getElem? (i := 147) rfl) rfl
set_option maxRecDepth 100000 in
theorem q_148 : (Jvm.Cond.instantiable "ElasticKernel$Springs" (5 : Nat)) ∈ lw_g := lw_t1 (List.mem_of_getElem? (i := 148) rfl) rfl
set_option maxRecDepth 100000 in
theorem q_149 : (Jvm.Cond.methodLink "ElasticKernel" (18 : Nat) ({ cls := "ElasticKernel$Springs", name := "<init>", desc := "()V" } : Jvm.MethodName)) ∈ lw_g := lw_t1 (List.mem_of_getElem? (i := 149) rfl) rfl
set_option maxRecDepth 100000 in
theorem q_150 : (Jvm.Cond.instanceMethod ({ cls := "ElasticKernel$Springs", name := "<init>", desc := "()V" } : Jvm.MethodName)) ∈ lw_g := lw_t1 (List.mem_of_getElem? (i := 150) rfl) rfl
set_option maxRecDepth 100000 in
theorem q_151 : (Jvm.Cond.code ({ cls := "ElasticKernel$Springs", name := "<init>", desc := "()V" } : Jvm.MethodName) prog_6_method_1_code (1 : Nat) (Option.none : Option Jvm.ClassFile.FieldType)) ∈ lw_g := lw_t1 (List.mem_of_getElem? (i := 151) rfl) rfl
set_option maxRecDepth 100000 in
theorem q_152 : (Jvm.Cond.methodLink "ElasticKernel$Springs" (3 : Nat) ({ cls := "java/lang/Object", name := "<init>", desc := "()V" } : Jvm.MethodName)) ∈ lw_g := lw_t1 (List.mem_of_getElem? (i := 152) rfl) rfl
set_option maxRecDepth 100000 in
theorem q_153 : (Jvm.Cond.classLink "ElasticKernel$Springs" (9 : Nat) "ElasticKernel$Fraction") ∈ lw_g := lw_t1 (List.mem_of_getElem? (i := 153) rfl) rfl
set_option maxRecDepth 100000 in
theorem q_154 : (Jvm.Cond.methodLink "ElasticKernel$Springs" (11 : Nat) ({ cls := "ElasticKernel$Fraction", name := "<init>", desc := "()V" } : Jvm.MethodName)) ∈ lw_g := lw_t1 (List.mem_of_getElem? (i := 154) rfl) rfl
set_option maxRecDepth 100000 in
theorem q_155 : (Jvm.Cond.classLink "ElasticKernel$Springs" (27 : Nat) "ElasticKernel$Divider") ∈ lw_g := lw_t1 (List.mem_of_getElem? (i := 155) rfl) rfl
set_option maxRecDepth 100000 in
theorem q_156 : (Jvm.Cond.instantiable "ElasticKernel$Divider" (4 : Nat)) ∈ lw_g := lw_t1 (List.mem_of_getElem? (i := 156) rfl) rfl
set_option maxRecDepth 100000 in
theorem q_157 : (Jvm.Cond.methodLink "ElasticKernel$Springs" (29 : Nat) ({ cls := "ElasticKernel$Divider", name := "<init>", desc := "()V" } : Jvm.MethodName)) ∈ lw_g := lw_t1 (List.mem_of_getElem? (i := 157) rfl) rfl
set_option maxRecDepth 100000 in
theorem q_158 : (Jvm.Cond.instanceMethod ({ cls := "ElasticKernel$Divider", name := "<init>", desc := "()V" } : Jvm.MethodName)) ∈ lw_g := lw_t1 (List.mem_of_getElem? (i := 158) rfl) rfl
set_option maxRecDepth 100000 in
theorem q_159 : (Jvm.Cond.code ({ cls := "ElasticKernel$Divider", name := "<init>", desc := "()V" } : Jvm.MethodName) prog_2_method_1_code (1 : Nat) (Option.none : Option Jvm.ClassFile.FieldType)) ∈ lw_g := lw_t1 (List.mem_of_getElem? (i := 159) rfl) rfl
set_option maxRecDepth 100000 in
theorem q_160 : (Jvm.Cond.methodLink "ElasticKernel$Divider" (1 : Nat) ({ cls := "java/lang/Object", name := "<init>", desc := "()V" } : Jvm.MethodName)) ∈ lw_g := lw_t1 (List.mem_of_getElem? (i := 160) rfl) rfl
set_option maxRecDepth 100000 in
theorem q_161 : (Jvm.Cond.classLink "ElasticKernel$Divider" (7 : Nat) "ElasticKernel$Natural") ∈ lw_g := lw_t1 (List.mem_of_getElem? (i := 161) rfl) rfl
set_option maxRecDepth 100000 in
theorem q_162 : (Jvm.Cond.methodLink "ElasticKernel$Divider" (9 : Nat) ({ cls := "ElasticKernel$Natural", name := "<init>", desc := "()V" } : Jvm.MethodName)) ∈ lw_g := lw_t1 (List.mem_of_getElem? (i := 162) rfl) rfl
set_option maxRecDepth 100000 in
theorem q_163 : (Jvm.Cond.fieldLink "ElasticKernel$Divider" (10 : Nat) "ElasticKernel$Divider" "quotient" "LElasticKernel$Natural;") ∈ lw_g := lw_t1 (List.mem_of_getElem? (i := 163) rfl) rfl
set_option maxRecDepth 100000 in
theorem q_164 : (Jvm.Cond.fieldLink "ElasticKernel$Divider" (16 : Nat) "ElasticKernel$Divider" "shifted" "LElasticKernel$Natural;") ∈ lw_g := lw_t1 (List.mem_of_getElem? (i := 164) rfl) rfl
set_option maxRecDepth 100000 in
theorem q_165 : (Jvm.Cond.fieldLink "ElasticKernel$Divider" (19 : Nat) "ElasticKernel$Divider" "first" "LElasticKernel$Natural;") ∈ lw_g := lw_t1 (List.mem_of_getElem? (i := 165) rfl) rfl
set_option maxRecDepth 100000 in
theorem q_166 : (Jvm.Cond.fieldLink "ElasticKernel$Divider" (22 : Nat) "ElasticKernel$Divider" "second" "LElasticKernel$Natural;") ∈ lw_g := lw_t1 (List.mem_of_getElem? (i := 166) rfl) rfl
set_option maxRecDepth 100000 in
theorem q_167 : (Jvm.Cond.laysFinal "ElasticKernel$Divider" "ElasticKernel$Divider" "quotient" "LElasticKernel$Natural;") ∈ lw_g := lw_t1 (List.mem_of_getElem? (i := 167) rfl) rfl
set_option maxRecDepth 100000 in
theorem q_169 : (Jvm.Cond.laysFinal "ElasticKernel$Divider" "ElasticKernel$Divider" "shifted" "LElasticKernel$Natural;") ∈ lw_g := lw_t1 (List.mem_of_getElem? (i := 169) rfl) rfl
set_option maxRecDepth 100000 in
theorem q_171 : (Jvm.Cond.laysFinal "ElasticKernel$Divider" "ElasticKernel$Divider" "first" "LElasticKernel$Natural;") ∈ lw_g := lw_t1 (List.mem_of_getElem? (i := 171) rfl) rfl
set_option maxRecDepth 100000 in
theorem q_173 : (Jvm.Cond.laysFinal "ElasticKernel$Divider" "ElasticKernel$Divider" "second" "LElasticKernel$Natural;") ∈ lw_g := lw_t1 (List.mem_of_getElem? (i := 173) rfl) rfl
set_option maxRecDepth 100000 in
theorem q_176 : (Jvm.Cond.fieldLink "ElasticKernel$Springs" (12 : Nat) "ElasticKernel$Springs" "allLoads" "LElasticKernel$Fraction;") ∈ lw_g := lw_t1 (List.mem_of_getElem? (i := 176) rfl) rfl
set_option maxRecDepth 100000 in
theorem q_178 : (Jvm.Cond.fieldLink "ElasticKernel$Springs" (18 : Nat) "ElasticKernel$Springs" "sum" "LElasticKernel$Fraction;") ∈ lw_g := lw_t1 (List.mem_of_getElem? (i := 178) rfl) rfl
set_option maxRecDepth 100000 in
theorem q_179 : (Jvm.Cond.fieldLink "ElasticKernel$Springs" (21 : Nat) "ElasticKernel$Springs" "softness" "LElasticKernel$Fraction;") ∈ lw_g := lw_t1 (List.mem_of_getElem? (i := 179) rfl) rfl
set_option maxRecDepth 100000 in
theorem q_180 : (Jvm.Cond.fieldLink "ElasticKernel$Springs" (24 : Nat) "ElasticKernel$Springs" "push" "LElasticKernel$Fraction;") ∈ lw_g := lw_t1 (List.mem_of_getElem? (i := 180) rfl) rfl
set_option maxRecDepth 100000 in
theorem q_181 : (Jvm.Cond.fieldLink "ElasticKernel$Springs" (30 : Nat) "ElasticKernel$Springs" "divider" "LElasticKernel$Divider;") ∈ lw_g := lw_t1 (List.mem_of_getElem? (i := 181) rfl) rfl
set_option maxRecDepth 100000 in
theorem q_182 : (Jvm.Cond.laysFinal "ElasticKernel$Springs" "ElasticKernel$Springs" "allLoads" "LElasticKernel$Fraction;") ∈ lw_g := lw_t1 (List.mem_of_getElem? (i := 182) rfl) rfl
set_option maxRecDepth 100000 in
theorem q_184 : (Jvm.Cond.laysFinal "ElasticKernel$Springs" "ElasticKernel$Springs" "sum" "LElasticKernel$Fraction;") ∈ lw_g := lw_t1 (List.mem_of_getElem? (i := 184) rfl) rfl
set_option maxRecDepth 100000 in
theorem q_186 : (Jvm.Cond.laysFinal "ElasticKernel$Springs" "ElasticKernel$Springs" "softness" "LElasticKernel$Fraction;") ∈ lw_g := lw_t1 (List.mem_of_getElem? (i := 186) rfl) rfl
set_option maxRecDepth 100000 in
theorem q_188 : (Jvm.Cond.laysFinal "ElasticKernel$Springs" "ElasticKernel$Springs" "push" "LElasticKernel$Fraction;") ∈ lw_g := lw_t1 (List.mem_of_getElem? (i := 188) rfl) rfl
set_option maxRecDepth 100000 in
theorem q_190 : (Jvm.Cond.laysFinal "ElasticKernel$Springs" "ElasticKernel$Springs" "divider" "LElasticKernel$Divider;") ∈ lw_g := lw_t1 (List.mem_of_getElem? (i := 190) rfl) rfl
set_option maxRecDepth 100000 in
theorem q_193 : (Jvm.Cond.fieldLink "ElasticKernel" (10 : Nat) "ElasticKernel" "roster" "LElasticKernel$Roster;") ∈ lw_g := lw_t1 (List.mem_of_getElem? (i := 193) rfl) rfl
set_option maxRecDepth 100000 in
theorem q_194 : (Jvm.Cond.fieldLink "ElasticKernel" (19 : Nat) "ElasticKernel" "springs" "LElasticKernel$Springs;") ∈ lw_g := lw_t1 (List.mem_of_getElem? (i := 194) rfl) rfl
set_option maxRecDepth 100000 in
theorem q_195 : (Jvm.Cond.fieldLink "ElasticKernel" (59 : Nat) "ElasticKernel" "clock" "I") ∈ lw_g := lw_t1 (List.mem_of_getElem? (i := 195) rfl) rfl
set_option maxRecDepth 100000 in
theorem q_196 : (Jvm.Cond.fieldLink "ElasticKernel" (23 : Nat) "ElasticKernel" "allowed" "I") ∈ lw_g := lw_t1 (List.mem_of_getElem? (i := 196) rfl) rfl
set_option maxRecDepth 100000 in
theorem q_197 : (Jvm.Cond.fieldLink "ElasticKernel" (141 : Nat) "ElasticKernel" "missed" "I") ∈ lw_g := lw_t1 (List.mem_of_getElem? (i := 197) rfl) rfl
set_option maxRecDepth 100000 in
theorem q_198 : (Jvm.Cond.fieldLink "ElasticKernel" (144 : Nat) "ElasticKernel" "solves" "I") ∈ lw_g := lw_t1 (List.mem_of_getElem? (i := 198) rfl) rfl
set_option maxRecDepth 100000 in
theorem q_199 : (Jvm.Cond.fieldLink "ElasticKernel" (56 : Nat) "ElasticKernel" "instant" "I") ∈ lw_g := lw_t1 (List.mem_of_getElem? (i := 199) rfl) rfl
set_option maxRecDepth 100000 in
theorem q_200 : (Jvm.Cond.fieldLink "ElasticKernel" (154 : Nat) "ElasticKernel" "refusedAt" "I") ∈ lw_g := lw_t1 (List.mem_of_getElem? (i := 200) rfl) rfl
set_option maxRecDepth 100000 in
theorem q_201 : (Jvm.Cond.laysFinal "ElasticKernel" "ElasticKernel" "roster" "LElasticKernel$Roster;") ∈ lw_g := lw_t1 (List.mem_of_getElem? (i := 201) rfl) rfl
set_option maxRecDepth 100000 in
theorem q_203 : (Jvm.Cond.laysFinal "ElasticKernel" "ElasticKernel" "springs" "LElasticKernel$Springs;") ∈ lw_g := lw_t1 (List.mem_of_getElem? (i := 203) rfl) rfl
set_option maxRecDepth 100000 in
theorem q_205 : (Jvm.Cond.lays "ElasticKernel" "ElasticKernel" "clock" "I") ∈ lw_g := lw_t1 (List.mem_of_getElem? (i := 205) rfl) rfl
set_option maxRecDepth 100000 in
theorem q_207 : (Jvm.Cond.lays "ElasticKernel" "ElasticKernel" "allowed" "I") ∈ lw_g := lw_t1 (List.mem_of_getElem? (i := 207) rfl) rfl
set_option maxRecDepth 100000 in
theorem q_209 : (Jvm.Cond.lays "ElasticKernel" "ElasticKernel" "missed" "I") ∈ lw_g := lw_t1 (List.mem_of_getElem? (i := 209) rfl) rfl
set_option maxRecDepth 100000 in
theorem q_211 : (Jvm.Cond.lays "ElasticKernel" "ElasticKernel" "solves" "I") ∈ lw_g := lw_t1 (List.mem_of_getElem? (i := 211) rfl) rfl
set_option maxRecDepth 100000 in
theorem q_213 : (Jvm.Cond.lays "ElasticKernel" "ElasticKernel" "instant" "I") ∈ lw_g := lw_t1 (List.mem_of_getElem? (i := 213) rfl) rfl
set_option maxRecDepth 100000 in
theorem q_215 : (Jvm.Cond.lays "ElasticKernel" "ElasticKernel" "refusedAt" "I") ∈ lw_g := lw_t1 (List.mem_of_getElem? (i := 215) rfl) rfl
set_option maxRecDepth 100000 in
theorem q_218 : (Jvm.Cond.methodLink "ElasticKernelLaw" (19 : Nat) ({ cls := "ElasticKernel", name := "add", desc := "(IIIII)I" } : Jvm.MethodName)) ∈ lw_g := lw_t1 (List.mem_of_getElem? (i := 218) rfl) rfl
set_option maxRecDepth 100000 in
theorem q_219 : (Jvm.Cond.instanceMethod ({ cls := "ElasticKernel", name := "add", desc := "(IIIII)I" } : Jvm.MethodName)) ∈ lw_g := lw_t1 (List.mem_of_getElem? (i := 219) rfl) rfl
set_option maxRecDepth 100000 in
theorem q_220 : (Jvm.Cond.selects "ElasticKernel" ({ cls := "ElasticKernel", name := "add", desc := "(IIIII)I" } : Jvm.MethodName) ({ cls := "ElasticKernel", name := "add", desc := "(IIIII)I" } : Jvm.MethodName)) ∈ lw_g := lw_t1 (List.mem_of_getElem? (i := 220) rfl) rfl
set_option maxRecDepth 100000 in
theorem q_221 : (Jvm.Cond.code ({ cls := "ElasticKernel", name := "add", desc := "(IIIII)I" } : Jvm.MethodName) prog_1_method_2_code (7 : Nat) (Option.some Jvm.ClassFile.FieldType.int)) ∈ lw_g := lw_t1 (List.mem_of_getElem? (i := 221) rfl) rfl
set_option maxRecDepth 100000 in
theorem q_222 : (Jvm.Cond.methodLink "ElasticKernel" (27 : Nat) ({ cls := "ElasticKernel", name := "isWithin", desc := "(II)Z" } : Jvm.MethodName)) ∈ lw_g := lw_t1 (List.mem_of_getElem? (i := 222) rfl) rfl
set_option maxRecDepth 100000 in
theorem q_223 : (Jvm.Cond.static ({ cls := "ElasticKernel", name := "isWithin", desc := "(II)Z" } : Jvm.MethodName)) ∈ lw_g := lw_t1 (List.mem_of_getElem? (i := 223) rfl) rfl
set_option maxRecDepth 100000 in
theorem q_224 : (Jvm.Cond.code ({ cls := "ElasticKernel", name := "isWithin", desc := "(II)Z" } : Jvm.MethodName) prog_1_method_11_code (2 : Nat) (Option.some Jvm.ClassFile.FieldType.boolean)) ∈ lw_g := lw_t1 (List.mem_of_getElem? (i := 224) rfl) rfl
set_option maxRecDepth 100000 in
theorem q_225 : (Jvm.Cond.methodLink "ElasticKernel" (31 : Nat) ({ cls := "ElasticKernel", name := "arePeriods", desc := "(III)Z" } : Jvm.MethodName)) ∈ lw_g := lw_t1 (List.mem_of_getElem? (i := 225) rfl) rfl
set_option maxRecDepth 100000 in
theorem q_226 : (Jvm.Cond.static ({ cls := "ElasticKernel", name := "arePeriods", desc := "(III)Z" } : Jvm.MethodName)) ∈ lw_g := lw_t1 (List.mem_of_getElem? (i := 226) rfl) rfl
set_option maxRecDepth 100000 in
theorem q_227 : (Jvm.Cond.code ({ cls := "ElasticKernel", name := "arePeriods", desc := "(III)Z" } : Jvm.MethodName) prog_1_method_12_code (3 : Nat) (Option.some Jvm.ClassFile.FieldType.boolean)) ∈ lw_g := lw_t1 (List.mem_of_getElem? (i := 227) rfl) rfl
set_option maxRecDepth 100000 in
theorem q_228 : (Jvm.Cond.methodLink "ElasticKernel" (35 : Nat) ({ cls := "ElasticKernel$Roster", name := "enter", desc := "(I)LElasticKernel$Task;" } : Jvm.MethodName)) ∈ lw_g := lw_t1 (List.mem_of_getElem? (i := 228) rfl) rfl
set_option maxRecDepth 100000 in
theorem q_229 : (Jvm.Cond.instanceMethod ({ cls := "ElasticKernel$Roster", name := "enter", desc := "(I)LElasticKernel$Task;" } : Jvm.MethodName)) ∈ lw_g := lw_t1 (List.mem_of_getElem? (i := 229) rfl) rfl
set_option maxRecDepth 100000 in
theorem q_230 : (Jvm.Cond.selects "ElasticKernel$Roster" ({ cls := "ElasticKernel$Roster", name := "enter", desc := "(I)LElasticKernel$Task;" } : Jvm.MethodName) ({ cls := "ElasticKernel$Roster", name := "enter", desc := "(I)LElasticKernel$Task;" } : Jvm.MethodName)) ∈ lw_g := lw_t1 (List.mem_of_getElem? (i := 230) rfl) rfl
set_option maxRecDepth 100000 in
theorem q_231 : (Jvm.Cond.code ({ cls := "ElasticKernel$Roster", name := "enter", desc := "(I)LElasticKernel$Task;" } : Jvm.MethodName) prog_5_method_3_code (4 : Nat) (Option.some (Jvm.ClassFile.FieldType.object "ElasticKernel$Task"))) ∈ lw_g := lw_t1 (List.mem_of_getElem? (i := 231) rfl) rfl
set_option maxRecDepth 100000 in
theorem q_232 : (Jvm.Cond.methodLink "ElasticKernel$Roster" (25 : Nat) ({ cls := "ElasticKernel$Roster", name := "find", desc := "(I)LElasticKernel$Task;" } : Jvm.MethodName)) ∈ lw_g := lw_t1 (List.mem_of_getElem? (i := 232) rfl) rfl
set_option maxRecDepth 100000 in
theorem q_233 : (Jvm.Cond.instanceMethod ({ cls := "ElasticKernel$Roster", name := "find", desc := "(I)LElasticKernel$Task;" } : Jvm.MethodName)) ∈ lw_g := lw_t1 (List.mem_of_getElem? (i := 233) rfl) rfl
set_option maxRecDepth 100000 in
theorem q_234 : (Jvm.Cond.selects "ElasticKernel$Roster" ({ cls := "ElasticKernel$Roster", name := "find", desc := "(I)LElasticKernel$Task;" } : Jvm.MethodName) ({ cls := "ElasticKernel$Roster", name := "find", desc := "(I)LElasticKernel$Task;" } : Jvm.MethodName)) ∈ lw_g := lw_t1 (List.mem_of_getElem? (i := 234) rfl) rfl
set_option maxRecDepth 100000 in
theorem q_235 : (Jvm.Cond.code ({ cls := "ElasticKernel$Roster", name := "find", desc := "(I)LElasticKernel$Task;" } : Jvm.MethodName) prog_5_method_2_code (3 : Nat) (Option.some (Jvm.ClassFile.FieldType.object "ElasticKernel$Task"))) ∈ lw_g := lw_t1 (List.mem_of_getElem? (i := 235) rfl) rfl
set_option maxRecDepth 100000 in
theorem q_236 : (Jvm.Cond.methodLink "ElasticKernel" (39 : Nat) ({ cls := "ElasticKernel$Task", name := "announce", desc := "(IIII)V" } : Jvm.MethodName)) ∈ lw_g := lw_t1 (List.mem_of_getElem? (i := 236) rfl) rfl
set_option maxRecDepth 100000 in
theorem q_237 : (Jvm.Cond.instanceMethod ({ cls := "ElasticKernel$Task", name := "announce", desc := "(IIII)V" } : Jvm.MethodName)) ∈ lw_g := lw_t1 (List.mem_of_getElem? (i := 237) rfl) rfl
set_option maxRecDepth 100000 in
theorem q_238 : (Jvm.Cond.selects "ElasticKernel$Task" ({ cls := "ElasticKernel$Task", name := "announce", desc := "(IIII)V" } : Jvm.MethodName) ({ cls := "ElasticKernel$Task", name := "announce", desc := "(IIII)V" } : Jvm.MethodName)) ∈ lw_g := lw_t1 (List.mem_of_getElem? (i := 238) rfl) rfl
set_option maxRecDepth 100000 in
theorem q_239 : (Jvm.Cond.code ({ cls := "ElasticKernel$Task", name := "announce", desc := "(IIII)V" } : Jvm.MethodName) prog_7_method_2_code (5 : Nat) (Option.none : Option Jvm.ClassFile.FieldType)) ∈ lw_g := lw_t1 (List.mem_of_getElem? (i := 239) rfl) rfl
set_option maxRecDepth 100000 in
theorem q_240 : (Jvm.Cond.methodLink "ElasticKernel" (45 : Nat) ({ cls := "ElasticKernel", name := "isRefused", desc := "(I)Z" } : Jvm.MethodName)) ∈ lw_g := lw_t2 (List.mem_of_getElem? (i := 0) rfl) rfl
set_option maxRecDepth 100000 in
theorem q_242 : (Jvm.Cond.instanceMethod ({ cls := "ElasticKernel", name := "isRefused", desc := "(I)Z" } : Jvm.MethodName)) ∈ lw_g := lw_t2 (List.mem_of_getElem? (i := 2) rfl) rfl
set_option maxRecDepth 100000 in
theorem q_243 : (Jvm.Cond.code ({ cls := "ElasticKernel", name := "isRefused", desc := "(I)Z" } : Jvm.MethodName) prog_1_method_14_code (3 : Nat) (Option.some Jvm.ClassFile.FieldType.boolean)) ∈ lw_g := lw_t2 (List.mem_of_getElem? (i := 3) rfl) rfl
set_option maxRecDepth 100000 in
theorem q_244 : (Jvm.Cond.methodLink "ElasticKernel" (172 : Nat) ({ cls := "ElasticKernel$Springs", name := "firstTooMuch", desc := "(LElasticKernel$Roster;I)I" } : Jvm.MethodName)) ∈ lw_g := lw_t2 (List.mem_of_getElem? (i := 4) rfl) rfl
set_option maxRecDepth 100000 in
theorem q_245 : (Jvm.Cond.instanceMethod ({ cls := "ElasticKernel$Springs", name := "firstTooMuch", desc := "(LElasticKernel$Roster;I)I" } : Jvm.MethodName)) ∈ lw_g := lw_t2 (List.mem_of_getElem? (i := 5) rfl) rfl
set_option maxRecDepth 100000 in
theorem q_246 : (Jvm.Cond.selects "ElasticKernel$Springs" ({ cls := "ElasticKernel$Springs", name := "firstTooMuch", desc := "(LElasticKernel$Roster;I)I" } : Jvm.MethodName) ({ cls := "ElasticKernel$Springs", name := "firstTooMuch", desc := "(LElasticKernel$Roster;I)I" } : Jvm.MethodName)) ∈ lw_g := lw_t2 (List.mem_of_getElem? (i := 6) rfl) rfl
set_option maxRecDepth 100000 in
theorem q_247 : (Jvm.Cond.code ({ cls := "ElasticKernel$Springs", name := "firstTooMuch", desc := "(LElasticKernel$Roster;I)I" } : Jvm.MethodName) prog_6_method_2_code (5 : Nat) (Option.some Jvm.ClassFile.FieldType.int)) ∈ lw_g := lw_t2 (List.mem_of_getElem? (i := 7) rfl) rfl
set_option maxRecDepth 100000 in
theorem q_248 : (Jvm.Cond.methodLink "ElasticKernel$Springs" (34 : Nat) ({ cls := "ElasticKernel$Fraction", name := "set", desc := "(II)V" } : Jvm.MethodName)) ∈ lw_g := lw_t2 (List.mem_of_getElem? (i := 8) rfl) rfl
set_option maxRecDepth 100000 in
theorem q_249 : (Jvm.Cond.instanceMethod ({ cls := "ElasticKernel$Fraction", name := "set", desc := "(II)V" } : Jvm.MethodName)) ∈ lw_g := lw_t2 (List.mem_of_getElem? (i := 9) rfl) rfl
set_option maxRecDepth 100000 in
theorem q_250 : (Jvm.Cond.selects "ElasticKernel$Fraction" ({ cls := "ElasticKernel$Fraction", name := "set", desc := "(II)V" } : Jvm.MethodName) ({ cls := "ElasticKernel$Fraction", name := "set", desc := "(II)V" } : Jvm.MethodName)) ∈ lw_g := lw_t2 (List.mem_of_getElem? (i := 10) rfl) rfl
set_option maxRecDepth 100000 in
theorem q_251 : (Jvm.Cond.code ({ cls := "ElasticKernel$Fraction", name := "set", desc := "(II)V" } : Jvm.MethodName) prog_3_method_2_code (4 : Nat) (Option.none : Option Jvm.ClassFile.FieldType)) ∈ lw_g := lw_t2 (List.mem_of_getElem? (i := 11) rfl) rfl
set_option maxRecDepth 100000 in
theorem q_252 : (Jvm.Cond.methodLink "ElasticKernel$Fraction" (23 : Nat) ({ cls := "ElasticKernel$Fraction", name := "commonFactor", desc := "(II)I" } : Jvm.MethodName)) ∈ lw_g := lw_t2 (List.mem_of_getElem? (i := 12) rfl) rfl
set_option maxRecDepth 100000 in
theorem q_253 : (Jvm.Cond.static ({ cls := "ElasticKernel$Fraction", name := "commonFactor", desc := "(II)I" } : Jvm.MethodName)) ∈ lw_g := lw_t2 (List.mem_of_getElem? (i := 13) rfl) rfl
set_option maxRecDepth 100000 in
theorem q_254 : (Jvm.Cond.code ({ cls := "ElasticKernel$Fraction", name := "commonFactor", desc := "(II)I" } : Jvm.MethodName) prog_3_method_8_code (6 : Nat) (Option.some Jvm.ClassFile.FieldType.int)) ∈ lw_g := lw_t2 (List.mem_of_getElem? (i := 14) rfl) rfl
set_option maxRecDepth 100000 in
theorem q_255 : (Jvm.Cond.methodLink "ElasticKernel$Fraction" (58 : Nat) ({ cls := "java/lang/Math", name := "max", desc := "(II)I" } : Jvm.MethodName)) ∈ lw_g := lw_t2 (List.mem_of_getElem? (i := 15) rfl) rfl
set_option maxRecDepth 100000 in
theorem q_256 : (Jvm.Cond.static ({ cls := "java/lang/Math", name := "max", desc := "(II)I" } : Jvm.MethodName)) ∈ lw_g := lw_t2 (List.mem_of_getElem? (i := 16) rfl) rfl
set_option maxRecDepth 100000 in
theorem q_257 : (Jvm.Cond.code ({ cls := "java/lang/Math", name := "max", desc := "(II)I" } : Jvm.MethodName) prog_13_method_65_code (2 : Nat) (Option.some Jvm.ClassFile.FieldType.int)) ∈ lw_g := lw_t2 (List.mem_of_getElem? (i := 17) rfl) rfl
set_option maxRecDepth 100000 in
theorem q_258 : (Jvm.Cond.methodLink "ElasticKernel$Springs" (56 : Nat) ({ cls := "ElasticKernel$Fraction", name := "join", desc := "(III)V" } : Jvm.MethodName)) ∈ lw_g := lw_t2 (List.mem_of_getElem? (i := 18) rfl) rfl
set_option maxRecDepth 100000 in
theorem q_259 : (Jvm.Cond.instanceMethod ({ cls := "ElasticKernel$Fraction", name := "join", desc := "(III)V" } : Jvm.MethodName)) ∈ lw_g := lw_t2 (List.mem_of_getElem? (i := 19) rfl) rfl
set_option maxRecDepth 100000 in
theorem q_260 : (Jvm.Cond.selects "ElasticKernel$Fraction" ({ cls := "ElasticKernel$Fraction", name := "join", desc := "(III)V" } : Jvm.MethodName) ({ cls := "ElasticKernel$Fraction", name := "join", desc := "(III)V" } : Jvm.MethodName)) ∈ lw_g := lw_t2 (List.mem_of_getElem? (i := 20) rfl) rfl
set_option maxRecDepth 100000 in
theorem q_261 : (Jvm.Cond.code ({ cls := "ElasticKernel$Fraction", name := "join", desc := "(III)V" } : Jvm.MethodName) prog_3_method_7_code (9 : Nat) (Option.none : Option Jvm.ClassFile.FieldType)) ∈ lw_g := lw_t2 (List.mem_of_getElem? (i := 21) rfl) rfl
set_option maxRecDepth 100000 in
theorem q_262 : (Jvm.Cond.methodLink "ElasticKernel$Fraction" (49 : Nat) ({ cls := "java/lang/Math", name := "abs", desc := "(I)I" } : Jvm.MethodName)) ∈ lw_g := lw_t2 (List.mem_of_getElem? (i := 22) rfl) rfl
set_option maxRecDepth 100000 in
theorem q_263 : (Jvm.Cond.static ({ cls := "java/lang/Math", name := "abs", desc := "(I)I" } : Jvm.MethodName)) ∈ lw_g := lw_t2 (List.mem_of_getElem? (i := 23) rfl) rfl
set_option maxRecDepth 100000 in
theorem q_264 : (Jvm.Cond.code ({ cls := "java/lang/Math", name := "abs", desc := "(I)I" } : Jvm.MethodName) prog_13_method_59_code (1 : Nat) (Option.some Jvm.ClassFile.FieldType.int)) ∈ lw_g := lw_t2 (List.mem_of_getElem? (i := 24) rfl) rfl
set_option maxRecDepth 100000 in
theorem q_265 : (Jvm.Cond.methodLink "ElasticKernel$Fraction" (35 : Nat) ({ cls := "ElasticKernel$Natural", name := "remainder", desc := "(I)I" } : Jvm.MethodName)) ∈ lw_g := lw_t2 (List.mem_of_getElem? (i := 25) rfl) rfl
set_option maxRecDepth 100000 in
theorem q_266 : (Jvm.Cond.instanceMethod ({ cls := "ElasticKernel$Natural", name := "remainder", desc := "(I)I" } : Jvm.MethodName)) ∈ lw_g := lw_t2 (List.mem_of_getElem? (i := 26) rfl) rfl
set_option maxRecDepth 100000 in
theorem q_267 : (Jvm.Cond.selects "ElasticKernel$Natural" ({ cls := "ElasticKernel$Natural", name := "remainder", desc := "(I)I" } : Jvm.MethodName) ({ cls := "ElasticKernel$Natural", name := "remainder", desc := "(I)I" } : Jvm.MethodName)) ∈ lw_g := lw_t2 (List.mem_of_getElem? (i := 27) rfl) rfl
set_option maxRecDepth 100000 in
theorem q_268 : (Jvm.Cond.code ({ cls := "ElasticKernel$Natural", name := "remainder", desc := "(I)I" } : Jvm.MethodName) prog_4_method_12_code (5 : Nat) (Option.some Jvm.ClassFile.FieldType.int)) ∈ lw_g := lw_t2 (List.mem_of_getElem? (i := 28) rfl) rfl
set_option maxRecDepth 100000 in
theorem q_269 : (Jvm.Cond.methodLink "ElasticKernel$Fraction" (39 : Nat) ({ cls := "ElasticKernel$Natural", name := "divideExactly", desc := "(I)V" } : Jvm.MethodName)) ∈ lw_g := lw_t2 (List.mem_of_getElem? (i := 29) rfl) rfl
set_option maxRecDepth 100000 in
theorem q_270 : (Jvm.Cond.instanceMethod ({ cls := "ElasticKernel$Natural", name := "divideExactly", desc := "(I)V" } : Jvm.MethodName)) ∈ lw_g := lw_t2 (List.mem_of_getElem? (i := 30) rfl) rfl
set_option maxRecDepth 100000 in
theorem q_271 : (Jvm.Cond.selects "ElasticKernel$Natural" ({ cls := "ElasticKernel$Natural", name := "divideExactly", desc := "(I)V" } : Jvm.MethodName) ({ cls := "ElasticKernel$Natural", name := "divideExactly", desc := "(I)V" } : Jvm.MethodName)) ∈ lw_g := lw_t2 (List.mem_of_getElem? (i := 31) rfl) rfl
set_option maxRecDepth 100000 in
theorem q_272 : (Jvm.Cond.code ({ cls := "ElasticKernel$Natural", name := "divideExactly", desc := "(I)V" } : Jvm.MethodName) prog_4_method_13_code (5 : Nat) (Option.none : Option Jvm.ClassFile.FieldType)) ∈ lw_g := lw_t2 (List.mem_of_getElem? (i := 32) rfl) rfl
set_option maxRecDepth 100000 in
theorem q_273 : (Jvm.Cond.methodLink "ElasticKernel$Fraction" (54 : Nat) ({ cls := "ElasticKernel$Natural", name := "weigh", desc := "(JLElasticKernel$Natural;J)V" } : Jvm.MethodName)) ∈ lw_g := lw_t2 (List.mem_of_getElem? (i := 33) rfl) rfl
set_option maxRecDepth 100000 in
theorem q_274 : (Jvm.Cond.instanceMethod ({ cls := "ElasticKernel$Natural", name := "weigh", desc := "(JLElasticKernel$Natural;J)V" } : Jvm.MethodName)) ∈ lw_g := lw_t2 (List.mem_of_getElem? (i := 34) rfl) rfl
set_option maxRecDepth 100000 in
theorem q_275 : (Jvm.Cond.selects "ElasticKernel$Natural" ({ cls := "ElasticKernel$Natural", name := "weigh", desc := "(JLElasticKernel$Natural;J)V" } : Jvm.MethodName) ({ cls := "ElasticKernel$Natural", name := "weigh", desc := "(JLElasticKernel$Natural;J)V" } : Jvm.MethodName)) ∈ lw_g := lw_t2 (List.mem_of_getElem? (i := 35) rfl) rfl
set_option maxRecDepth 100000 in
theorem q_276 : (Jvm.Cond.code ({ cls := "ElasticKernel$Natural", name := "weigh", desc := "(JLElasticKernel$Natural;J)V" } : Jvm.MethodName) prog_4_method_11_code (11 : Nat) (Option.none : Option Jvm.ClassFile.FieldType)) ∈ lw_g := lw_t2 (List.mem_of_getElem? (i := 36) rfl) rfl
set_option maxRecDepth 100000 in
theorem q_277 : (Jvm.Cond.constantLong "ElasticKernel$Natural" (37 : Nat) (16777215 : Int64)) ∈ lw_g := lw_t2 (List.mem_of_getElem? (i := 37) rfl) rfl
set_option maxRecDepth 100000 in
theorem q_278 : (Jvm.Cond.methodLink "ElasticKernel$Fraction" (42 : Nat) ({ cls := "ElasticKernel$Natural", name := "multiply", desc := "(I)V" } : Jvm.MethodName)) ∈ lw_g := lw_t2 (List.mem_of_getElem? (i := 38) rfl) rfl
set_option maxRecDepth 100000 in
theorem q_279 : (Jvm.Cond.instanceMethod ({ cls := "ElasticKernel$Natural", name := "multiply", desc := "(I)V" } : Jvm.MethodName)) ∈ lw_g := lw_t2 (List.mem_of_getElem? (i := 39) rfl) rfl
set_option maxRecDepth 100000 in
theorem q_280 : (Jvm.Cond.selects "ElasticKernel$Natural" ({ cls := "ElasticKernel$Natural", name := "multiply", desc := "(I)V" } : Jvm.MethodName) ({ cls := "ElasticKernel$Natural", name := "multiply", desc := "(I)V" } : Jvm.MethodName)) ∈ lw_g := lw_t2 (List.mem_of_getElem? (i := 40) rfl) rfl
set_option maxRecDepth 100000 in
theorem q_281 : (Jvm.Cond.code ({ cls := "ElasticKernel$Natural", name := "multiply", desc := "(I)V" } : Jvm.MethodName) prog_4_method_10_code (2 : Nat) (Option.none : Option Jvm.ClassFile.FieldType)) ∈ lw_g := lw_t2 (List.mem_of_getElem? (i := 41) rfl) rfl
set_option maxRecDepth 100000 in
theorem q_282 : (Jvm.Cond.methodLink "ElasticKernel$Natural" (39 : Nat) ({ cls := "ElasticKernel$Natural", name := "weigh", desc := "(JLElasticKernel$Natural;J)V" } : Jvm.MethodName)) ∈ lw_g := lw_t2 (List.mem_of_getElem? (i := 42) rfl) rfl
set_option maxRecDepth 100000 in
theorem q_283 : (Jvm.Cond.constantLong "ElasticKernel$Springs" (60 : Nat) (1000 : Int64)) ∈ lw_g := lw_t2 (List.mem_of_getElem? (i := 43) rfl) rfl
set_option maxRecDepth 100000 in
theorem q_284 : (Jvm.Cond.methodLink "ElasticKernel$Springs" (62 : Nat) ({ cls := "ElasticKernel$Fraction", name := "compare", desc := "(JJ)I" } : Jvm.MethodName)) ∈ lw_g := lw_t2 (List.mem_of_getElem? (i := 44) rfl) rfl
set_option maxRecDepth 100000 in
theorem q_285 : (Jvm.Cond.instanceMethod ({ cls := "ElasticKernel$Fraction", name := "compare", desc := "(JJ)I" } : Jvm.MethodName)) ∈ lw_g := lw_t2 (List.mem_of_getElem? (i := 45) rfl) rfl
set_option maxRecDepth 100000 in
theorem q_286 : (Jvm.Cond.selects "ElasticKernel$Fraction" ({ cls := "ElasticKernel$Fraction", name := "compare", desc := "(JJ)I" } : Jvm.MethodName) ({ cls := "ElasticKernel$Fraction", name := "compare", desc := "(JJ)I" } : Jvm.MethodName)) ∈ lw_g := lw_t2 (List.mem_of_getElem? (i := 46) rfl) rfl
set_option maxRecDepth 100000 in
theorem q_287 : (Jvm.Cond.code ({ cls := "ElasticKernel$Fraction", name := "compare", desc := "(JJ)I" } : Jvm.MethodName) prog_3_method_6_code (5 : Nat) (Option.some Jvm.ClassFile.FieldType.int)) ∈ lw_g := lw_t2 (List.mem_of_getElem? (i := 47) rfl) rfl
set_option maxRecDepth 100000 in
theorem q_288 : (Jvm.Cond.methodLink "ElasticKernel$Fraction" (45 : Nat) ({ cls := "ElasticKernel$Natural", name := "compareProducts", desc := "(LElasticKernel$Natural;JLElasticKernel$Natural;J)I" } : Jvm.MethodName)) ∈ lw_g := lw_t2 (List.mem_of_getElem? (i := 48) rfl) rfl
set_option maxRecDepth 100000 in
theorem q_289 : (Jvm.Cond.static ({ cls := "ElasticKernel$Natural", name := "compareProducts", desc := "(LElasticKernel$Natural;JLElasticKernel$Natural;J)I" } : Jvm.MethodName)) ∈ lw_g := lw_t2 (List.mem_of_getElem? (i := 49) rfl) rfl
set_option maxRecDepth 100000 in
theorem q_290 : (Jvm.Cond.code ({ cls := "ElasticKernel$Natural", name := "compareProducts", desc := "(LElasticKernel$Natural;JLElasticKernel$Natural;J)I" } : Jvm.MethodName) prog_4_method_14_code (13 : Nat) (Option.some Jvm.ClassFile.FieldType.int)) ∈ lw_g := lw_t2 (List.mem_of_getElem? (i := 50) rfl) rfl
set_option maxRecDepth 100000 in
theorem q_291 : (Jvm.Cond.methodLink "ElasticKernel" (49 : Nat) ({ cls := "ElasticKernel$Roster", name := "drop", desc := "(LElasticKernel$Task;)V" } : Jvm.MethodName)) ∈ lw_g := lw_t2 (List.mem_of_getElem? (i := 51) rfl) rfl
set_option maxRecDepth 100000 in
theorem q_292 : (Jvm.Cond.instanceMethod ({ cls := "ElasticKernel$Roster", name := "drop", desc := "(LElasticKernel$Task;)V" } : Jvm.MethodName)) ∈ lw_g := lw_t2 (List.mem_of_getElem? (i := 52) rfl) rfl
set_option maxRecDepth 100000 in
theorem q_293 : (Jvm.Cond.selects "ElasticKernel$Roster" ({ cls := "ElasticKernel$Roster", name := "drop", desc := "(LElasticKernel$Task;)V" } : Jvm.MethodName) ({ cls := "ElasticKernel$Roster", name := "drop", desc := "(LElasticKernel$Task;)V" } : Jvm.MethodName)) ∈ lw_g := lw_t2 (List.mem_of_getElem? (i := 53) rfl) rfl
set_option maxRecDepth 100000 in
theorem q_294 : (Jvm.Cond.code ({ cls := "ElasticKernel$Roster", name := "drop", desc := "(LElasticKernel$Task;)V" } : Jvm.MethodName) prog_5_method_4_code (4 : Nat) (Option.none : Option Jvm.ClassFile.FieldType)) ∈ lw_g := lw_t2 (List.mem_of_getElem? (i := 54) rfl) rfl
set_option maxRecDepth 100000 in
theorem q_295 : (Jvm.Cond.methodLink "ElasticKernel" (53 : Nat) ({ cls := "ElasticKernel", name := "solve", desc := "()V" } : Jvm.MethodName)) ∈ lw_g := lw_t2 (List.mem_of_getElem? (i := 55) rfl) rfl
set_option maxRecDepth 100000 in
theorem q_297 : (Jvm.Cond.instanceMethod ({ cls := "ElasticKernel", name := "solve", desc := "()V" } : Jvm.MethodName)) ∈ lw_g := lw_t2 (List.mem_of_getElem? (i := 57) rfl) rfl
set_option maxRecDepth 100000 in
theorem q_298 : (Jvm.Cond.code ({ cls := "ElasticKernel", name := "solve", desc := "()V" } : Jvm.MethodName) prog_1_method_15_code (3 : Nat) (Option.none : Option Jvm.ClassFile.FieldType)) ∈ lw_g := lw_t2 (List.mem_of_getElem? (i := 58) rfl) rfl
set_option maxRecDepth 100000 in
theorem q_299 : (Jvm.Cond.methodLink "ElasticKernel" (176 : Nat) ({ cls := "ElasticKernel$Springs", name := "haveRoom", desc := "(LElasticKernel$Roster;I)Z" } : Jvm.MethodName)) ∈ lw_g := lw_t2 (List.mem_of_getElem? (i := 59) rfl) rfl
set_option maxRecDepth 100000 in
theorem q_300 : (Jvm.Cond.instanceMethod ({ cls := "ElasticKernel$Springs", name := "haveRoom", desc := "(LElasticKernel$Roster;I)Z" } : Jvm.MethodName)) ∈ lw_g := lw_t2 (List.mem_of_getElem? (i := 60) rfl) rfl
set_option maxRecDepth 100000 in
theorem q_301 : (Jvm.Cond.selects "ElasticKernel$Springs" ({ cls := "ElasticKernel$Springs", name := "haveRoom", desc := "(LElasticKernel$Roster;I)Z" } : Jvm.MethodName) ({ cls := "ElasticKernel$Springs", name := "haveRoom", desc := "(LElasticKernel$Roster;I)Z" } : Jvm.MethodName)) ∈ lw_g := lw_t2 (List.mem_of_getElem? (i := 61) rfl) rfl
set_option maxRecDepth 100000 in
theorem q_302 : (Jvm.Cond.code ({ cls := "ElasticKernel$Springs", name := "haveRoom", desc := "(LElasticKernel$Roster;I)Z" } : Jvm.MethodName) prog_6_method_4_code (3 : Nat) (Option.some Jvm.ClassFile.FieldType.boolean)) ∈ lw_g := lw_t2 (List.mem_of_getElem? (i := 62) rfl) rfl
set_option maxRecDepth 100000 in
theorem q_303 : (Jvm.Cond.methodLink "ElasticKernel$Springs" (80 : Nat) ({ cls := "ElasticKernel$Springs", name := "unpin", desc := "(LElasticKernel$Roster;)V" } : Jvm.MethodName)) ∈ lw_g := lw_t2 (List.mem_of_getElem? (i := 63) rfl) rfl
set_option maxRecDepth 100000 in
theorem q_305 : (Jvm.Cond.instanceMethod ({ cls := "ElasticKernel$Springs", name := "unpin", desc := "(LElasticKernel$Roster;)V" } : Jvm.MethodName)) ∈ lw_g := lw_t2 (List.mem_of_getElem? (i := 65) rfl) rfl
set_option maxRecDepth 100000 in
theorem q_306 : (Jvm.Cond.code ({ cls := "ElasticKernel$Springs", name := "unpin", desc := "(LElasticKernel$Roster;)V" } : Jvm.MethodName) prog_6_method_7_code (3 : Nat) (Option.none : Option Jvm.ClassFile.FieldType)) ∈ lw_g := lw_t2 (List.mem_of_getElem? (i := 66) rfl) rfl
set_option maxRecDepth 100000 in
theorem q_307 : (Jvm.Cond.methodLink "ElasticKernel$Springs" (84 : Nat) ({ cls := "ElasticKernel$Springs", name := "addUp", desc := "(LElasticKernel$Roster;)V" } : Jvm.MethodName)) ∈ lw_g := lw_t2 (List.mem_of_getElem? (i := 67) rfl) rfl
set_option maxRecDepth 100000 in
theorem q_309 : (Jvm.Cond.instanceMethod ({ cls := "ElasticKernel$Springs", name := "addUp", desc := "(LElasticKernel$Roster;)V" } : Jvm.MethodName)) ∈ lw_g := lw_t2 (List.mem_of_getElem? (i := 69) rfl) rfl
set_option maxRecDepth 100000 in
theorem q_310 : (Jvm.Cond.code ({ cls := "ElasticKernel$Springs", name := "addUp", desc := "(LElasticKernel$Roster;)V" } : Jvm.MethodName) prog_6_method_8_code (4 : Nat) (Option.none : Option Jvm.ClassFile.FieldType)) ∈ lw_g := lw_t2 (List.mem_of_getElem? (i := 70) rfl) rfl
set_option maxRecDepth 100000 in
theorem q_311 : (Jvm.Cond.methodLink "ElasticKernel$Springs" (109 : Nat) ({ cls := "ElasticKernel$Task", name := "isSolved", desc := "()Z" } : Jvm.MethodName)) ∈ lw_g := lw_t2 (List.mem_of_getElem? (i := 71) rfl) rfl
set_option maxRecDepth 100000 in
theorem q_312 : (Jvm.Cond.instanceMethod ({ cls := "ElasticKernel$Task", name := "isSolved", desc := "()Z" } : Jvm.MethodName)) ∈ lw_g := lw_t2 (List.mem_of_getElem? (i := 72) rfl) rfl
set_option maxRecDepth 100000 in
theorem q_313 : (Jvm.Cond.selects "ElasticKernel$Task" ({ cls := "ElasticKernel$Task", name := "isSolved", desc := "()Z" } : Jvm.MethodName) ({ cls := "ElasticKernel$Task", name := "isSolved", desc := "()Z" } : Jvm.MethodName)) ∈ lw_g := lw_t2 (List.mem_of_getElem? (i := 73) rfl) rfl
set_option maxRecDepth 100000 in
theorem q_314 : (Jvm.Cond.code ({ cls := "ElasticKernel$Task", name := "isSolved", desc := "()Z" } : Jvm.MethodName) prog_7_method_3_code (1 : Nat) (Option.some Jvm.ClassFile.FieldType.boolean)) ∈ lw_g := lw_t2 (List.mem_of_getElem? (i := 74) rfl) rfl
set_option maxRecDepth 100000 in
theorem q_315 : (Jvm.Cond.methodLink "ElasticKernel" (180 : Nat) ({ cls := "ElasticKernel$Springs", name := "relax", desc := "()V" } : Jvm.MethodName)) ∈ lw_g := lw_t2 (List.mem_of_getElem? (i := 75) rfl) rfl
set_option maxRecDepth 100000 in
theorem q_316 : (Jvm.Cond.instanceMethod ({ cls := "ElasticKernel$Springs", name := "relax", desc := "()V" } : Jvm.MethodName)) ∈ lw_g := lw_t2 (List.mem_of_getElem? (i := 76) rfl) rfl
set_option maxRecDepth 100000 in
theorem q_317 : (Jvm.Cond.selects "ElasticKernel$Springs" ({ cls := "ElasticKernel$Springs", name := "relax", desc := "()V" } : Jvm.MethodName) ({ cls := "ElasticKernel$Springs", name := "relax", desc := "()V" } : Jvm.MethodName)) ∈ lw_g := lw_t2 (List.mem_of_getElem? (i := 77) rfl) rfl
set_option maxRecDepth 100000 in
theorem q_318 : (Jvm.Cond.code ({ cls := "ElasticKernel$Springs", name := "relax", desc := "()V" } : Jvm.MethodName) prog_6_method_5_code (1 : Nat) (Option.none : Option Jvm.ClassFile.FieldType)) ∈ lw_g := lw_t2 (List.mem_of_getElem? (i := 78) rfl) rfl
set_option maxRecDepth 100000 in
theorem q_319 : (Jvm.Cond.methodLink "ElasticKernel$Springs" (87 : Nat) ({ cls := "ElasticKernel$Fraction", name := "copy", desc := "(LElasticKernel$Fraction;)V" } : Jvm.MethodName)) ∈ lw_g := lw_t2 (List.mem_of_getElem? (i := 79) rfl) rfl
set_option maxRecDepth 100000 in
theorem q_320 : (Jvm.Cond.instanceMethod ({ cls := "ElasticKernel$Fraction", name := "copy", desc := "(LElasticKernel$Fraction;)V" } : Jvm.MethodName)) ∈ lw_g := lw_t2 (List.mem_of_getElem? (i := 80) rfl) rfl
set_option maxRecDepth 100000 in
theorem q_321 : (Jvm.Cond.selects "ElasticKernel$Fraction" ({ cls := "ElasticKernel$Fraction", name := "copy", desc := "(LElasticKernel$Fraction;)V" } : Jvm.MethodName) ({ cls := "ElasticKernel$Fraction", name := "copy", desc := "(LElasticKernel$Fraction;)V" } : Jvm.MethodName)) ∈ lw_g := lw_t2 (List.mem_of_getElem? (i := 81) rfl) rfl
set_option maxRecDepth 100000 in
theorem q_322 : (Jvm.Cond.code ({ cls := "ElasticKernel$Fraction", name := "copy", desc := "(LElasticKernel$Fraction;)V" } : Jvm.MethodName) prog_3_method_3_code (2 : Nat) (Option.none : Option Jvm.ClassFile.FieldType)) ∈ lw_g := lw_t2 (List.mem_of_getElem? (i := 82) rfl) rfl
set_option maxRecDepth 100000 in
theorem q_323 : (Jvm.Cond.methodLink "ElasticKernel$Fraction" (27 : Nat) ({ cls := "ElasticKernel$Natural", name := "copy", desc := "(LElasticKernel$Natural;)V" } : Jvm.MethodName)) ∈ lw_g := lw_t2 (List.mem_of_getElem? (i := 83) rfl) rfl
set_option maxRecDepth 100000 in
theorem q_324 : (Jvm.Cond.instanceMethod ({ cls := "ElasticKernel$Natural", name := "copy", desc := "(LElasticKernel$Natural;)V" } : Jvm.MethodName)) ∈ lw_g := lw_t2 (List.mem_of_getElem? (i := 84) rfl) rfl
set_option maxRecDepth 100000 in
theorem q_325 : (Jvm.Cond.selects "ElasticKernel$Natural" ({ cls := "ElasticKernel$Natural", name := "copy", desc := "(LElasticKernel$Natural;)V" } : Jvm.MethodName) ({ cls := "ElasticKernel$Natural", name := "copy", desc := "(LElasticKernel$Natural;)V" } : Jvm.MethodName)) ∈ lw_g := lw_t2 (List.mem_of_getElem? (i := 85) rfl) rfl
set_option maxRecDepth 100000 in
theorem q_326 : (Jvm.Cond.code ({ cls := "ElasticKernel$Natural", name := "copy", desc := "(LElasticKernel$Natural;)V" } : Jvm.MethodName) prog_4_method_6_code (2 : Nat) (Option.none : Option Jvm.ClassFile.FieldType)) ∈ lw_g := lw_t2 (List.mem_of_getElem? (i := 86) rfl) rfl
set_option maxRecDepth 100000 in
theorem q_327 : (Jvm.Cond.methodLink "ElasticKernel$Natural" (24 : Nat) ({ cls := "java/lang/System", name := "arraycopy", desc := "(Ljava/lang/Object;ILjava/lang/Object;II)V" } : Jvm.MethodName)) ∈ lw_g := lw_t2 (List.mem_of_getElem? (i := 87) rfl) rfl
set_option maxRecDepth 100000 in
theorem q_328 : (Jvm.Cond.static ({ cls := "java/lang/System", name := "arraycopy", desc := "(Ljava/lang/Object;ILjava/lang/Object;II)V" } : Jvm.MethodName)) ∈ lw_g := lw_t2 (List.mem_of_getElem? (i := 88) rfl) rfl
set_option maxRecDepth 100000 in
theorem q_329 : (Jvm.Cond.native ({ cls := "java/lang/System", name := "arraycopy", desc := "(Ljava/lang/Object;ILjava/lang/Object;II)V" } : Jvm.MethodName)) ∈ lw_g := lw_t2 (List.mem_of_getElem? (i := 89) rfl) rfl
set_option maxRecDepth 100000 in
theorem q_330 : (Jvm.Cond.methodLink "ElasticKernel" (183 : Nat) ({ cls := "ElasticKernel$Springs", name := "press", desc := "(LElasticKernel$Roster;I)V" } : Jvm.MethodName)) ∈ lw_g := lw_t2 (List.mem_of_getElem? (i := 90) rfl) rfl
set_option maxRecDepth 100000 in
theorem q_331 : (Jvm.Cond.instanceMethod ({ cls := "ElasticKernel$Springs", name := "press", desc := "(LElasticKernel$Roster;I)V" } : Jvm.MethodName)) ∈ lw_g := lw_t2 (List.mem_of_getElem? (i := 91) rfl) rfl
set_option maxRecDepth 100000 in
theorem q_332 : (Jvm.Cond.selects "ElasticKernel$Springs" ({ cls := "ElasticKernel$Springs", name := "press", desc := "(LElasticKernel$Roster;I)V" } : Jvm.MethodName) ({ cls := "ElasticKernel$Springs", name := "press", desc := "(LElasticKernel$Roster;I)V" } : Jvm.MethodName)) ∈ lw_g := lw_t2 (List.mem_of_getElem? (i := 92) rfl) rfl
set_option maxRecDepth 100000 in
theorem q_333 : (Jvm.Cond.code ({ cls := "ElasticKernel$Springs", name := "press", desc := "(LElasticKernel$Roster;I)V" } : Jvm.MethodName) prog_6_method_6_code (5 : Nat) (Option.none : Option Jvm.ClassFile.FieldType)) ∈ lw_g := lw_t2 (List.mem_of_getElem? (i := 93) rfl) rfl
set_option maxRecDepth 100000 in
theorem q_334 : (Jvm.Cond.methodLink "ElasticKernel$Springs" (91 : Nat) ({ cls := "ElasticKernel$Springs", name := "addUpSoftness", desc := "(LElasticKernel$Roster;)V" } : Jvm.MethodName)) ∈ lw_g := lw_t2 (List.mem_of_getElem? (i := 94) rfl) rfl
set_option maxRecDepth 100000 in
theorem q_336 : (Jvm.Cond.instanceMethod ({ cls := "ElasticKernel$Springs", name := "addUpSoftness", desc := "(LElasticKernel$Roster;)V" } : Jvm.MethodName)) ∈ lw_g := lw_t2 (List.mem_of_getElem? (i := 96) rfl) rfl
set_option maxRecDepth 100000 in
theorem q_337 : (Jvm.Cond.code ({ cls := "ElasticKernel$Springs", name := "addUpSoftness", desc := "(LElasticKernel$Roster;)V" } : Jvm.MethodName) prog_6_method_9_code (4 : Nat) (Option.none : Option Jvm.ClassFile.FieldType)) ∈ lw_g := lw_t2 (List.mem_of_getElem? (i := 97) rfl) rfl
set_option maxRecDepth 100000 in
theorem q_338 : (Jvm.Cond.methodLink "ElasticKernel$Springs" (94 : Nat) ({ cls := "ElasticKernel$Fraction", name := "setRatio", desc := "(LElasticKernel$Fraction;LElasticKernel$Fraction;)V" } : Jvm.MethodName)) ∈ lw_g := lw_t2 (List.mem_of_getElem? (i := 98) rfl) rfl
set_option maxRecDepth 100000 in
theorem q_339 : (Jvm.Cond.instanceMethod ({ cls := "ElasticKernel$Fraction", name := "setRatio", desc := "(LElasticKernel$Fraction;LElasticKernel$Fraction;)V" } : Jvm.MethodName)) ∈ lw_g := lw_t2 (List.mem_of_getElem? (i := 99) rfl) rfl
set_option maxRecDepth 100000 in
theorem q_340 : (Jvm.Cond.selects "ElasticKernel$Fraction" ({ cls := "ElasticKernel$Fraction", name := "setRatio", desc := "(LElasticKernel$Fraction;LElasticKernel$Fraction;)V" } : Jvm.MethodName) ({ cls := "ElasticKernel$Fraction", name := "setRatio", desc := "(LElasticKernel$Fraction;LElasticKernel$Fraction;)V" } : Jvm.MethodName)) ∈ lw_g := lw_t2 (List.mem_of_getElem? (i := 100) rfl) rfl
set_option maxRecDepth 100000 in
theorem q_341 : (Jvm.Cond.code ({ cls := "ElasticKernel$Fraction", name := "setRatio", desc := "(LElasticKernel$Fraction;LElasticKernel$Fraction;)V" } : Jvm.MethodName) prog_3_method_4_code (3 : Nat) (Option.none : Option Jvm.ClassFile.FieldType)) ∈ lw_g := lw_t2 (List.mem_of_getElem? (i := 101) rfl) rfl
set_option maxRecDepth 100000 in
theorem q_342 : (Jvm.Cond.methodLink "ElasticKernel$Fraction" (31 : Nat) ({ cls := "ElasticKernel$Natural", name := "setProduct", desc := "(LElasticKernel$Natural;LElasticKernel$Natural;)V" } : Jvm.MethodName)) ∈ lw_g := lw_t2 (List.mem_of_getElem? (i := 102) rfl) rfl
set_option maxRecDepth 100000 in
theorem q_343 : (Jvm.Cond.instanceMethod ({ cls := "ElasticKernel$Natural", name := "setProduct", desc := "(LElasticKernel$Natural;LElasticKernel$Natural;)V" } : Jvm.MethodName)) ∈ lw_g := lw_t2 (List.mem_of_getElem? (i := 103) rfl) rfl
set_option maxRecDepth 100000 in
theorem q_344 : (Jvm.Cond.selects "ElasticKernel$Natural" ({ cls := "ElasticKernel$Natural", name := "setProduct", desc := "(LElasticKernel$Natural;LElasticKernel$Natural;)V" } : Jvm.MethodName) ({ cls := "ElasticKernel$Natural", name := "setProduct", desc := "(LElasticKernel$Natural;LElasticKernel$Natural;)V" } : Jvm.MethodName)) ∈ lw_g := lw_t2 (List.mem_of_getElem? (i := 104) rfl) rfl
set_option maxRecDepth 100000 in
theorem q_345 : (Jvm.Cond.code ({ cls := "ElasticKernel$Natural", name := "setProduct", desc := "(LElasticKernel$Natural;LElasticKernel$Natural;)V" } : Jvm.MethodName) prog_4_method_9_code (9 : Nat) (Option.none : Option Jvm.ClassFile.FieldType)) ∈ lw_g := lw_t2 (List.mem_of_getElem? (i := 105) rfl) rfl
set_option maxRecDepth 100000 in
theorem q_346 : (Jvm.Cond.methodLink "ElasticKernel$Natural" (33 : Nat) ({ cls := "ElasticKernel$Natural", name := "set", desc := "(I)V" } : Jvm.MethodName)) ∈ lw_g := lw_t2 (List.mem_of_getElem? (i := 106) rfl) rfl
set_option maxRecDepth 100000 in
theorem q_347 : (Jvm.Cond.methodLink "ElasticKernel$Springs" (98 : Nat) ({ cls := "ElasticKernel$Springs", name := "pinPressed", desc := "(LElasticKernel$Roster;)Z" } : Jvm.MethodName)) ∈ lw_g := lw_t2 (List.mem_of_getElem? (i := 107) rfl) rfl
set_option maxRecDepth 100000 in
theorem q_349 : (Jvm.Cond.instanceMethod ({ cls := "ElasticKernel$Springs", name := "pinPressed", desc := "(LElasticKernel$Roster;)Z" } : Jvm.MethodName)) ∈ lw_g := lw_t2 (List.mem_of_getElem? (i := 109) rfl) rfl
set_option maxRecDepth 100000 in
theorem q_350 : (Jvm.Cond.code ({ cls := "ElasticKernel$Springs", name := "pinPressed", desc := "(LElasticKernel$Roster;)Z" } : Jvm.MethodName) prog_6_method_10_code (5 : Nat) (Option.some Jvm.ClassFile.FieldType.boolean)) ∈ lw_g := lw_t2 (List.mem_of_getElem? (i := 110) rfl) rfl
set_option maxRecDepth 100000 in
theorem q_351 : (Jvm.Cond.methodLink "ElasticKernel$Springs" (119 : Nat) ({ cls := "ElasticKernel$Springs", name := "isTooMuchFor", desc := "(LElasticKernel$Task;)Z" } : Jvm.MethodName)) ∈ lw_g := lw_t2 (List.mem_of_getElem? (i := 111) rfl) rfl
set_option maxRecDepth 100000 in
theorem q_353 : (Jvm.Cond.instanceMethod ({ cls := "ElasticKernel$Springs", name := "isTooMuchFor", desc := "(LElasticKernel$Task;)Z" } : Jvm.MethodName)) ∈ lw_g := lw_t2 (List.mem_of_getElem? (i := 113) rfl) rfl
set_option maxRecDepth 100000 in
theorem q_354 : (Jvm.Cond.code ({ cls := "ElasticKernel$Springs", name := "isTooMuchFor", desc := "(LElasticKernel$Task;)Z" } : Jvm.MethodName) prog_6_method_11_code (4 : Nat) (Option.some Jvm.ClassFile.FieldType.boolean)) ∈ lw_g := lw_t2 (List.mem_of_getElem? (i := 114) rfl) rfl
set_option maxRecDepth 100000 in
theorem q_355 : (Jvm.Cond.methodLink "ElasticKernel$Springs" (102 : Nat) ({ cls := "ElasticKernel$Divider", name := "reduce", desc := "(LElasticKernel$Fraction;)V" } : Jvm.MethodName)) ∈ lw_g := lw_t2 (List.mem_of_getElem? (i := 115) rfl) rfl
set_option maxRecDepth 100000 in
theorem q_356 : (Jvm.Cond.instanceMethod ({ cls := "ElasticKernel$Divider", name := "reduce", desc := "(LElasticKernel$Fraction;)V" } : Jvm.MethodName)) ∈ lw_g := lw_t2 (List.mem_of_getElem? (i := 116) rfl) rfl
set_option maxRecDepth 100000 in
theorem q_357 : (Jvm.Cond.selects "ElasticKernel$Divider" ({ cls := "ElasticKernel$Divider", name := "reduce", desc := "(LElasticKernel$Fraction;)V" } : Jvm.MethodName) ({ cls := "ElasticKernel$Divider", name := "reduce", desc := "(LElasticKernel$Fraction;)V" } : Jvm.MethodName)) ∈ lw_g := lw_t2 (List.mem_of_getElem? (i := 117) rfl) rfl
set_option maxRecDepth 100000 in
theorem q_358 : (Jvm.Cond.code ({ cls := "ElasticKernel$Divider", name := "reduce", desc := "(LElasticKernel$Fraction;)V" } : Jvm.MethodName) prog_2_method_3_code (6 : Nat) (Option.none : Option Jvm.ClassFile.FieldType)) ∈ lw_g := lw_t2 (List.mem_of_getElem? (i := 118) rfl) rfl
set_option maxRecDepth 100000 in
theorem q_359 : (Jvm.Cond.methodLink "ElasticKernel$Divider" (25 : Nat) ({ cls := "ElasticKernel$Natural", name := "copy", desc := "(LElasticKernel$Natural;)V" } : Jvm.MethodName)) ∈ lw_g := lw_t2 (List.mem_of_getElem? (i := 119) rfl) rfl
set_option maxRecDepth 100000 in
theorem q_360 : (Jvm.Cond.methodLink "ElasticKernel$Divider" (41 : Nat) ({ cls := "ElasticKernel$Natural", name := "isZero", desc := "()Z" } : Jvm.MethodName)) ∈ lw_g := lw_t2 (List.mem_of_getElem? (i := 120) rfl) rfl
set_option maxRecDepth 100000 in
theorem q_361 : (Jvm.Cond.instanceMethod ({ cls := "ElasticKernel$Natural", name := "isZero", desc := "()Z" } : Jvm.MethodName)) ∈ lw_g := lw_t2 (List.mem_of_getElem? (i := 121) rfl) rfl
set_option maxRecDepth 100000 in
theorem q_362 : (Jvm.Cond.selects "ElasticKernel$Natural" ({ cls := "ElasticKernel$Natural", name := "isZero", desc := "()Z" } : Jvm.MethodName) ({ cls := "ElasticKernel$Natural", name := "isZero", desc := "()Z" } : Jvm.MethodName)) ∈ lw_g := lw_t2 (List.mem_of_getElem? (i := 122) rfl) rfl
set_option maxRecDepth 100000 in
theorem q_363 : (Jvm.Cond.code ({ cls := "ElasticKernel$Natural", name := "isZero", desc := "()Z" } : Jvm.MethodName) prog_4_method_3_code (1 : Nat) (Option.some Jvm.ClassFile.FieldType.boolean)) ∈ lw_g := lw_t2 (List.mem_of_getElem? (i := 123) rfl) rfl
set_option maxRecDepth 100000 in
theorem q_364 : (Jvm.Cond.methodLink "ElasticKernel$Natural" (13 : Nat) ({ cls := "ElasticKernel$Natural", name := "bitLength", desc := "()I" } : Jvm.MethodName)) ∈ lw_g := lw_t2 (List.mem_of_getElem? (i := 124) rfl) rfl
set_option maxRecDepth 100000 in
theorem q_365 : (Jvm.Cond.instanceMethod ({ cls := "ElasticKernel$Natural", name := "bitLength", desc := "()I" } : Jvm.MethodName)) ∈ lw_g := lw_t2 (List.mem_of_getElem? (i := 125) rfl) rfl
set_option maxRecDepth 100000 in
theorem q_366 : (Jvm.Cond.selects "ElasticKernel$Natural" ({ cls := "ElasticKernel$Natural", name := "bitLength", desc := "()I" } : Jvm.MethodName) ({ cls := "ElasticKernel$Natural", name := "bitLength", desc := "()I" } : Jvm.MethodName)) ∈ lw_g := lw_t2 (List.mem_of_getElem? (i := 126) rfl) rfl
set_option maxRecDepth 100000 in
theorem q_367 : (Jvm.Cond.code ({ cls := "ElasticKernel$Natural", name := "bitLength", desc := "()I" } : Jvm.MethodName) prog_4_method_4_code (2 : Nat) (Option.some Jvm.ClassFile.FieldType.int)) ∈ lw_g := lw_t2 (List.mem_of_getElem? (i := 127) rfl) rfl
set_option maxRecDepth 100000 in
theorem q_368 : (Jvm.Cond.methodLink "ElasticKernel$Natural" (17 : Nat) ({ cls := "java/lang/Integer", name := "numberOfLeadingZeros", desc := "(I)I" } : Jvm.MethodName)) ∈ lw_g := lw_t2 (List.mem_of_getElem? (i := 128) rfl) rfl
set_option maxRecDepth 100000 in
theorem q_369 : (Jvm.Cond.static ({ cls := "java/lang/Integer", name := "numberOfLeadingZeros", desc := "(I)I" } : Jvm.MethodName)) ∈ lw_g := lw_t2 (List.mem_of_getElem? (i := 129) rfl) rfl
set_option maxRecDepth 100000 in
theorem q_370 : (Jvm.Cond.code ({ cls := "java/lang/Integer", name := "numberOfLeadingZeros", desc := "(I)I" } : Jvm.MethodName) prog_12_method_47_code (2 : Nat) (Option.some Jvm.ClassFile.FieldType.int)) ∈ lw_g := lw_t2 (List.mem_of_getElem? (i := 130) rfl) rfl
set_option maxRecDepth 100000 in
theorem q_371 : (Jvm.Cond.constant "java/lang/Integer" (264 : Nat) (65536 : Int32)) ∈ lw_g := lw_t2 (List.mem_of_getElem? (i := 131) rfl) rfl
set_option maxRecDepth 100000 in
theorem q_372 : (Jvm.Cond.methodLink "ElasticKernel$Divider" (33 : Nat) ({ cls := "ElasticKernel$Divider", name := "divide", desc := "(LElasticKernel$Natural;LElasticKernel$Natural;)V" } : Jvm.MethodName)) ∈ lw_g := lw_t2 (List.mem_of_getElem? (i := 132) rfl) rfl
set_option maxRecDepth 100000 in
theorem q_374 : (Jvm.Cond.instanceMethod ({ cls := "ElasticKernel$Divider", name := "divide", desc := "(LElasticKernel$Natural;LElasticKernel$Natural;)V" } : Jvm.MethodName)) ∈ lw_g := lw_t2 (List.mem_of_getElem? (i := 134) rfl) rfl
set_option maxRecDepth 100000 in
theorem q_375 : (Jvm.Cond.code ({ cls := "ElasticKernel$Divider", name := "divide", desc := "(LElasticKernel$Natural;LElasticKernel$Natural;)V" } : Jvm.MethodName) prog_2_method_4_code (5 : Nat) (Option.none : Option Jvm.ClassFile.FieldType)) ∈ lw_g := lw_t2 (List.mem_of_getElem? (i := 135) rfl) rfl
set_option maxRecDepth 100000 in
theorem q_376 : (Jvm.Cond.methodLink "ElasticKernel$Divider" (53 : Nat) ({ cls := "ElasticKernel$Natural", name := "set", desc := "(I)V" } : Jvm.MethodName)) ∈ lw_g := lw_t2 (List.mem_of_getElem? (i := 136) rfl) rfl
set_option maxRecDepth 100000 in
theorem q_377 : (Jvm.Cond.methodLink "ElasticKernel$Divider" (56 : Nat) ({ cls := "ElasticKernel$Natural", name := "bitLength", desc := "()I" } : Jvm.MethodName)) ∈ lw_g := lw_t2 (List.mem_of_getElem? (i := 137) rfl) rfl
set_option maxRecDepth 100000 in
theorem q_378 : (Jvm.Cond.methodLink "ElasticKernel$Divider" (60 : Nat) ({ cls := "ElasticKernel$Natural", name := "setShifted", desc := "(LElasticKernel$Natural;I)V" } : Jvm.MethodName)) ∈ lw_g := lw_t2 (List.mem_of_getElem? (i := 138) rfl) rfl
set_option maxRecDepth 100000 in
theorem q_379 : (Jvm.Cond.instanceMethod ({ cls := "ElasticKernel$Natural", name := "setShifted", desc := "(LElasticKernel$Natural;I)V" } : Jvm.MethodName)) ∈ lw_g := lw_t2 (List.mem_of_getElem? (i := 139) rfl) rfl
set_option maxRecDepth 100000 in
theorem q_380 : (Jvm.Cond.selects "ElasticKernel$Natural" ({ cls := "ElasticKernel$Natural", name := "setShifted", desc := "(LElasticKernel$Natural;I)V" } : Jvm.MethodName) ({ cls := "ElasticKernel$Natural", name := "setShifted", desc := "(LElasticKernel$Natural;I)V" } : Jvm.MethodName)) ∈ lw_g := lw_t2 (List.mem_of_getElem? (i := 140) rfl) rfl
set_option maxRecDepth 100000 in
theorem q_381 : (Jvm.Cond.code ({ cls := "ElasticKernel$Natural", name := "setShifted", desc := "(LElasticKernel$Natural;I)V" } : Jvm.MethodName) prog_4_method_8_code (8 : Nat) (Option.none : Option Jvm.ClassFile.FieldType)) ∈ lw_g := lw_t2 (List.mem_of_getElem? (i := 141) rfl) rfl
set_option maxRecDepth 100000 in
theorem q_382 : (Jvm.Cond.methodLink "ElasticKernel$Natural" (30 : Nat) ({ cls := "ElasticKernel$Natural", name := "word", desc := "(I)I" } : Jvm.MethodName)) ∈ lw_g := lw_t2 (List.mem_of_getElem? (i := 142) rfl) rfl
set_option maxRecDepth 100000 in
theorem q_383 : (Jvm.Cond.instanceMethod ({ cls := "ElasticKernel$Natural", name := "word", desc := "(I)I" } : Jvm.MethodName)) ∈ lw_g := lw_t2 (List.mem_of_getElem? (i := 143) rfl) rfl
set_option maxRecDepth 100000 in
theorem q_384 : (Jvm.Cond.selects "ElasticKernel$Natural" ({ cls := "ElasticKernel$Natural", name := "word", desc := "(I)I" } : Jvm.MethodName) ({ cls := "ElasticKernel$Natural", name := "word", desc := "(I)I" } : Jvm.MethodName)) ∈ lw_g := lw_t2 (List.mem_of_getElem? (i := 144) rfl) rfl
set_option maxRecDepth 100000 in
theorem q_385 : (Jvm.Cond.code ({ cls := "ElasticKernel$Natural", name := "word", desc := "(I)I" } : Jvm.MethodName) prog_4_method_2_code (2 : Nat) (Option.some Jvm.ClassFile.FieldType.int)) ∈ lw_g := lw_t2 (List.mem_of_getElem? (i := 145) rfl) rfl
set_option maxRecDepth 100000 in
theorem q_386 : (Jvm.Cond.methodLink "ElasticKernel$Divider" (64 : Nat) ({ cls := "ElasticKernel$Natural", name := "compareProducts", desc := "(LElasticKernel$Natural;JLElasticKernel$Natural;J)I" } : Jvm.MethodName)) ∈ lw_g := lw_t2 (List.mem_of_getElem? (i := 146) rfl) rfl
set_option maxRecDepth 100000 in
theorem q_387 : (Jvm.Cond.constantLong "ElasticKernel$Divider" (68 : Nat) (-1 : Int64)) ∈ lw_g := lw_t2 (List.mem_of_getElem? (i := 147) rfl) rfl
set_option maxRecDepth 100000 in
theorem q_388 : (Jvm.Cond.methodLink "ElasticKernel$Divider" (70 : Nat) ({ cls := "ElasticKernel$Natural", name := "weigh", desc := "(JLElasticKernel$Natural;J)V" } : Jvm.MethodName)) ∈ lw_g := lw_t2 (List.mem_of_getElem? (i := 148) rfl) rfl
set_option maxRecDepth 100000 in
theorem q_389 : (Jvm.Cond.methodLink "ElasticKernel$Divider" (74 : Nat) ({ cls := "ElasticKernel$Natural", name := "setBit", desc := "(I)V" } : Jvm.MethodName)) ∈ lw_g := lw_t2 (List.mem_of_getElem? (i := 149) rfl) rfl
set_option maxRecDepth 100000 in
theorem q_390 : (Jvm.Cond.instanceMethod ({ cls := "ElasticKernel$Natural", name := "setBit", desc := "(I)V" } : Jvm.MethodName)) ∈ lw_g := lw_t2 (List.mem_of_getElem? (i := 150) rfl) rfl
set_option maxRecDepth 100000 in
theorem q_391 : (Jvm.Cond.selects "ElasticKernel$Natural" ({ cls := "ElasticKernel$Natural", name := "setBit", desc := "(I)V" } : Jvm.MethodName) ({ cls := "ElasticKernel$Natural", name := "setBit", desc := "(I)V" } : Jvm.MethodName)) ∈ lw_g := lw_t2 (List.mem_of_getElem? (i := 151) rfl) rfl
set_option maxRecDepth 100000 in
theorem q_392 : (Jvm.Cond.code ({ cls := "ElasticKernel$Natural", name := "setBit", desc := "(I)V" } : Jvm.MethodName) prog_4_method_7_code (2 : Nat) (Option.none : Option Jvm.ClassFile.FieldType)) ∈ lw_g := lw_t2 (List.mem_of_getElem? (i := 152) rfl) rfl
set_option maxRecDepth 100000 in
theorem q_393 : (Jvm.Cond.methodLink "ElasticKernel" (98 : Nat) ({ cls := "java/lang/Math", name := "max", desc := "(II)I" } : Jvm.MethodName)) ∈ lw_g := lw_t2 (List.mem_of_getElem? (i := 153) rfl) rfl
set_option maxRecDepth 100000 in
theorem q_394 : (Jvm.Cond.methodLink "ElasticKernel" (191 : Nat) ({ cls := "ElasticKernel$Task", name := "isSolved", desc := "()Z" } : Jvm.MethodName)) ∈ lw_g := lw_t2 (List.mem_of_getElem? (i := 154) rfl) rfl
set_option maxRecDepth 100000 in
theorem q_395 : (Jvm.Cond.methodLink "ElasticKernel" (194 : Nat) ({ cls := "ElasticKernel$Springs", name := "setLoad", desc := "(LElasticKernel$Task;)V" } : Jvm.MethodName)) ∈ lw_g := lw_t2 (List.mem_of_getElem? (i := 155) rfl) rfl
set_option maxRecDepth 100000 in
theorem q_396 : (Jvm.Cond.instanceMethod ({ cls := "ElasticKernel$Springs", name := "setLoad", desc := "(LElasticKernel$Task;)V" } : Jvm.MethodName)) ∈ lw_g := lw_t2 (List.mem_of_getElem? (i := 156) rfl) rfl
set_option maxRecDepth 100000 in
theorem q_397 : (Jvm.Cond.selects "ElasticKernel$Springs" ({ cls := "ElasticKernel$Springs", name := "setLoad", desc := "(LElasticKernel$Task;)V" } : Jvm.MethodName) ({ cls := "ElasticKernel$Springs", name := "setLoad", desc := "(LElasticKernel$Task;)V" } : Jvm.MethodName)) ∈ lw_g := lw_t2 (List.mem_of_getElem? (i := 157) rfl) rfl
set_option maxRecDepth 100000 in
theorem q_398 : (Jvm.Cond.code ({ cls := "ElasticKernel$Springs", name := "setLoad", desc := "(LElasticKernel$Task;)V" } : Jvm.MethodName) prog_6_method_12_code (3 : Nat) (Option.none : Option Jvm.ClassFile.FieldType)) ∈ lw_g := lw_t2 (List.mem_of_getElem? (i := 158) rfl) rfl
set_option maxRecDepth 100000 in
theorem q_399 : (Jvm.Cond.methodLink "ElasticKernel$Springs" (126 : Nat) ({ cls := "ElasticKernel$Fraction", name := "divideBy", desc := "(I)V" } : Jvm.MethodName)) ∈ lw_g := lw_t2 (List.mem_of_getElem? (i := 159) rfl) rfl
set_option maxRecDepth 100000 in
theorem q_400 : (Jvm.Cond.instanceMethod ({ cls := "ElasticKernel$Fraction", name := "divideBy", desc := "(I)V" } : Jvm.MethodName)) ∈ lw_g := lw_t2 (List.mem_of_getElem? (i := 160) rfl) rfl
set_option maxRecDepth 100000 in
theorem q_401 : (Jvm.Cond.selects "ElasticKernel$Fraction" ({ cls := "ElasticKernel$Fraction", name := "divideBy", desc := "(I)V" } : Jvm.MethodName) ({ cls := "ElasticKernel$Fraction", name := "divideBy", desc := "(I)V" } : Jvm.MethodName)) ∈ lw_g := lw_t2 (List.mem_of_getElem? (i := 161) rfl) rfl
set_option maxRecDepth 100000 in
theorem q_402 : (Jvm.Cond.code ({ cls := "ElasticKernel$Fraction", name := "divideBy", desc := "(I)V" } : Jvm.MethodName) prog_3_method_5_code (3 : Nat) (Option.none : Option Jvm.ClassFile.FieldType)) ∈ lw_g := lw_t2 (List.mem_of_getElem? (i := 162) rfl) rfl
set_option maxRecDepth 100000 in
theorem q_403 : (Jvm.Cond.methodLink "ElasticKernel$Springs" (76 : Nat) ({ cls := "ElasticKernel$Divider", name := "ratioUp", desc := "(LElasticKernel$Natural;ILElasticKernel$Natural;)I" } : Jvm.MethodName)) ∈ lw_g := lw_t2 (List.mem_of_getElem? (i := 163) rfl) rfl
set_option maxRecDepth 100000 in
theorem q_404 : (Jvm.Cond.instanceMethod ({ cls := "ElasticKernel$Divider", name := "ratioUp", desc := "(LElasticKernel$Natural;ILElasticKernel$Natural;)I" } : Jvm.MethodName)) ∈ lw_g := lw_t2 (List.mem_of_getElem? (i := 164) rfl) rfl
set_option maxRecDepth 100000 in
theorem q_405 : (Jvm.Cond.selects "ElasticKernel$Divider" ({ cls := "ElasticKernel$Divider", name := "ratioUp", desc := "(LElasticKernel$Natural;ILElasticKernel$Natural;)I" } : Jvm.MethodName) ({ cls := "ElasticKernel$Divider", name := "ratioUp", desc := "(LElasticKernel$Natural;ILElasticKernel$Natural;)I" } : Jvm.MethodName)) ∈ lw_g := lw_t2 (List.mem_of_getElem? (i := 165) rfl) rfl
set_option maxRecDepth 100000 in
theorem q_406 : (Jvm.Cond.code ({ cls := "ElasticKernel$Divider", name := "ratioUp", desc := "(LElasticKernel$Natural;ILElasticKernel$Natural;)I" } : Jvm.MethodName) prog_2_method_2_code (4 : Nat) (Option.some Jvm.ClassFile.FieldType.int)) ∈ lw_g := lw_t2 (List.mem_of_getElem? (i := 166) rfl) rfl
set_option maxRecDepth 100000 in
theorem q_407 : (Jvm.Cond.methodLink "ElasticKernel$Divider" (29 : Nat) ({ cls := "ElasticKernel$Natural", name := "multiply", desc := "(I)V" } : Jvm.MethodName)) ∈ lw_g := lw_t2 (List.mem_of_getElem? (i := 167) rfl) rfl
set_option maxRecDepth 100000 in
theorem q_408 : (Jvm.Cond.methodLink "ElasticKernel$Divider" (37 : Nat) ({ cls := "ElasticKernel$Natural", name := "word", desc := "(I)I" } : Jvm.MethodName)) ∈ lw_g := lw_t2 (List.mem_of_getElem? (i := 168) rfl) rfl
set_option maxRecDepth 100000 in
theorem q_409 : (Jvm.Cond.methodLink "ElasticKernel" (197 : Nat) ({ cls := "ElasticKernel$Task", name := "holdsUpChange", desc := "()Z" } : Jvm.MethodName)) ∈ lw_g := lw_t2 (List.mem_of_getElem? (i := 169) rfl) rfl
set_option maxRecDepth 100000 in
theorem q_410 : (Jvm.Cond.instanceMethod ({ cls := "ElasticKernel$Task", name := "holdsUpChange", desc := "()Z" } : Jvm.MethodName)) ∈ lw_g := lw_t2 (List.mem_of_getElem? (i := 170) rfl) rfl
set_option maxRecDepth 100000 in
theorem q_411 : (Jvm.Cond.selects "ElasticKernel$Task" ({ cls := "ElasticKernel$Task", name := "holdsUpChange", desc := "()Z" } : Jvm.MethodName) ({ cls := "ElasticKernel$Task", name := "holdsUpChange", desc := "()Z" } : Jvm.MethodName)) ∈ lw_g := lw_t2 (List.mem_of_getElem? (i := 171) rfl) rfl
set_option maxRecDepth 100000 in
theorem q_412 : (Jvm.Cond.code ({ cls := "ElasticKernel$Task", name := "holdsUpChange", desc := "()Z" } : Jvm.MethodName) prog_7_method_4_code (1 : Nat) (Option.some Jvm.ClassFile.FieldType.boolean)) ∈ lw_g := lw_t2 (List.mem_of_getElem? (i := 172) rfl) rfl
set_option maxRecDepth 100000 in
theorem q_413 : (Jvm.Cond.methodLink "ElasticKernelLaw" (24 : Nat) ({ cls := "ElasticKernel", name := "leave", desc := "(I)Z" } : Jvm.MethodName)) ∈ lw_g := lw_t2 (List.mem_of_getElem? (i := 173) rfl) rfl
set_option maxRecDepth 100000 in
theorem q_414 : (Jvm.Cond.instanceMethod ({ cls := "ElasticKernel", name := "leave", desc := "(I)Z" } : Jvm.MethodName)) ∈ lw_g := lw_t2 (List.mem_of_getElem? (i := 174) rfl) rfl
set_option maxRecDepth 100000 in
theorem q_415 : (Jvm.Cond.selects "ElasticKernel" ({ cls := "ElasticKernel", name := "leave", desc := "(I)Z" } : Jvm.MethodName) ({ cls := "ElasticKernel", name := "leave", desc := "(I)Z" } : Jvm.MethodName)) ∈ lw_g := lw_t2 (List.mem_of_getElem? (i := 175) rfl) rfl
set_option maxRecDepth 100000 in
theorem q_416 : (Jvm.Cond.code ({ cls := "ElasticKernel", name := "leave", desc := "(I)Z" } : Jvm.MethodName) prog_1_method_3_code (3 : Nat) (Option.some Jvm.ClassFile.FieldType.boolean)) ∈ lw_g := lw_t2 (List.mem_of_getElem? (i := 176) rfl) rfl
set_option maxRecDepth 100000 in
theorem q_417 : (Jvm.Cond.methodLink "ElasticKernel" (62 : Nat) ({ cls := "ElasticKernel$Roster", name := "find", desc := "(I)LElasticKernel$Task;" } : Jvm.MethodName)) ∈ lw_g := lw_t2 (List.mem_of_getElem? (i := 177) rfl) rfl
set_option maxRecDepth 100000 in
theorem q_418 : (Jvm.Cond.methodLink "ElasticKernelLaw" (29 : Nat) ({ cls := "ElasticKernel", name := "load", desc := "(I)Z" } : Jvm.MethodName)) ∈ lw_g := lw_t2 (List.mem_of_getElem? (i := 178) rfl) rfl
set_option maxRecDepth 100000 in
theorem q_419 : (Jvm.Cond.instanceMethod ({ cls := "ElasticKernel", name := "load", desc := "(I)Z" } : Jvm.MethodName)) ∈ lw_g := lw_t2 (List.mem_of_getElem? (i := 179) rfl) rfl
set_option maxRecDepth 100000 in
theorem q_420 : (Jvm.Cond.selects "ElasticKernel" ({ cls := "ElasticKernel", name := "load", desc := "(I)Z" } : Jvm.MethodName) ({ cls := "ElasticKernel", name := "load", desc := "(I)Z" } : Jvm.MethodName)) ∈ lw_g := lw_t2 (List.mem_of_getElem? (i := 180) rfl) rfl
set_option maxRecDepth 100000 in
theorem q_421 : (Jvm.Cond.code ({ cls := "ElasticKernel", name := "load", desc := "(I)Z" } : Jvm.MethodName) prog_1_method_4_code (2 : Nat) (Option.some Jvm.ClassFile.FieldType.boolean)) ∈ lw_g := lw_t2 (List.mem_of_getElem? (i := 181) rfl) rfl
set_option maxRecDepth 100000 in
theorem q_422 : (Jvm.Cond.methodLink "ElasticKernelLaw" (33 : Nat) ({ cls := "ElasticKernel", name := "use", desc := "(II)Z" } : Jvm.MethodName)) ∈ lw_g := lw_t2 (List.mem_of_getElem? (i := 182) rfl) rfl
set_option maxRecDepth 100000 in
theorem q_423 : (Jvm.Cond.instanceMethod ({ cls := "ElasticKernel", name := "use", desc := "(II)Z" } : Jvm.MethodName)) ∈ lw_g := lw_t2 (List.mem_of_getElem? (i := 183) rfl) rfl
set_option maxRecDepth 100000 in
theorem q_424 : (Jvm.Cond.selects "ElasticKernel" ({ cls := "ElasticKernel", name := "use", desc := "(II)Z" } : Jvm.MethodName) ({ cls := "ElasticKernel", name := "use", desc := "(II)Z" } : Jvm.MethodName)) ∈ lw_g := lw_t2 (List.mem_of_getElem? (i := 184) rfl) rfl
set_option maxRecDepth 100000 in
theorem q_425 : (Jvm.Cond.code ({ cls := "ElasticKernel", name := "use", desc := "(II)Z" } : Jvm.MethodName) prog_1_method_5_code (4 : Nat) (Option.some Jvm.ClassFile.FieldType.boolean)) ∈ lw_g := lw_t2 (List.mem_of_getElem? (i := 185) rfl) rfl
set_option maxRecDepth 100000 in
theorem q_426 : (Jvm.Cond.methodLink "ElasticKernelLaw" (48 : Nat) ({ cls := "ElasticKernel", name := "task", desc := "(II)I" } : Jvm.MethodName)) ∈ lw_g := lw_t2 (List.mem_of_getElem? (i := 186) rfl) rfl
set_option maxRecDepth 100000 in
theorem q_427 : (Jvm.Cond.instanceMethod ({ cls := "ElasticKernel", name := "task", desc := "(II)I" } : Jvm.MethodName)) ∈ lw_g := lw_t2 (List.mem_of_getElem? (i := 187) rfl) rfl
set_option maxRecDepth 100000 in
theorem q_428 : (Jvm.Cond.selects "ElasticKernel" ({ cls := "ElasticKernel", name := "task", desc := "(II)I" } : Jvm.MethodName) ({ cls := "ElasticKernel", name := "task", desc := "(II)I" } : Jvm.MethodName)) ∈ lw_g := lw_t2 (List.mem_of_getElem? (i := 188) rfl) rfl
set_option maxRecDepth 100000 in
theorem q_429 : (Jvm.Cond.code ({ cls := "ElasticKernel", name := "task", desc := "(II)I" } : Jvm.MethodName) prog_1_method_7_code (4 : Nat) (Option.some Jvm.ClassFile.FieldType.int)) ∈ lw_g := lw_t2 (List.mem_of_getElem? (i := 189) rfl) rfl
set_option maxRecDepth 100000 in
theorem q_430 : (Jvm.Cond.methodLink "ElasticKernel" (126 : Nat) ({ cls := "ElasticKernel$Task", name := "isPressedFlat", desc := "()Z" } : Jvm.MethodName)) ∈ lw_g := lw_t2 (List.mem_of_getElem? (i := 190) rfl) rfl
set_option maxRecDepth 100000 in
theorem q_431 : (Jvm.Cond.instanceMethod ({ cls := "ElasticKernel$Task", name := "isPressedFlat", desc := "()Z" } : Jvm.MethodName)) ∈ lw_g := lw_t2 (List.mem_of_getElem? (i := 191) rfl) rfl
set_option maxRecDepth 100000 in
theorem q_432 : (Jvm.Cond.selects "ElasticKernel$Task" ({ cls := "ElasticKernel$Task", name := "isPressedFlat", desc := "()Z" } : Jvm.MethodName) ({ cls := "ElasticKernel$Task", name := "isPressedFlat", desc := "()Z" } : Jvm.MethodName)) ∈ lw_g := lw_t2 (List.mem_of_getElem? (i := 192) rfl) rfl
set_option maxRecDepth 100000 in
theorem q_433 : (Jvm.Cond.code ({ cls := "ElasticKernel$Task", name := "isPressedFlat", desc := "()Z" } : Jvm.MethodName) prog_7_method_5_code (1 : Nat) (Option.some Jvm.ClassFile.FieldType.boolean)) ∈ lw_g := lw_t2 (List.mem_of_getElem? (i := 193) rfl) rfl
set_option maxRecDepth 100000 in
theorem q_434 : (Jvm.Cond.methodLink "ElasticKernel$Task" (55 : Nat) ({ cls := "ElasticKernel$Task", name := "isSolved", desc := "()Z" } : Jvm.MethodName)) ∈ lw_g := lw_t2 (List.mem_of_getElem? (i := 194) rfl) rfl
set_option maxRecDepth 100000 in
theorem q_435 : (Jvm.Cond.methodLink "ElasticKernel$Task" (59 : Nat) ({ cls := "ElasticKernel$Fraction", name := "compare", desc := "(JJ)I" } : Jvm.MethodName)) ∈ lw_g := lw_t2 (List.mem_of_getElem? (i := 195) rfl) rfl
set_option maxRecDepth 100000 in
theorem q_436 : (Jvm.Cond.methodLink "ElasticKernelLaw" (53 : Nat) ({ cls := "ElasticKernel", name := "rate", desc := "(III)I" } : Jvm.MethodName)) ∈ lw_g := lw_t2 (List.mem_of_getElem? (i := 196) rfl) rfl
set_option maxRecDepth 100000 in
theorem q_437 : (Jvm.Cond.instanceMethod ({ cls := "ElasticKernel", name := "rate", desc := "(III)I" } : Jvm.MethodName)) ∈ lw_g := lw_t2 (List.mem_of_getElem? (i := 197) rfl) rfl
set_option maxRecDepth 100000 in
theorem q_438 : (Jvm.Cond.selects "ElasticKernel" ({ cls := "ElasticKernel", name := "rate", desc := "(III)I" } : Jvm.MethodName) ({ cls := "ElasticKernel", name := "rate", desc := "(III)I" } : Jvm.MethodName)) ∈ lw_g := lw_t2 (List.mem_of_getElem? (i := 198) rfl) rfl
set_option maxRecDepth 100000 in
theorem q_439 : (Jvm.Cond.code ({ cls := "ElasticKernel", name := "rate", desc := "(III)I" } : Jvm.MethodName) prog_1_method_8_code (5 : Nat) (Option.some Jvm.ClassFile.FieldType.int)) ∈ lw_g := lw_t2 (List.mem_of_getElem? (i := 199) rfl) rfl
set_option maxRecDepth 100000 in
theorem q_440 : (Jvm.Cond.methodLink "ElasticKernel" (134 : Nat) ({ cls := "ElasticKernel", name := "wordOf", desc := "(LElasticKernel$Fraction;II)I" } : Jvm.MethodName)) ∈ lw_g := lw_t2 (List.mem_of_getElem? (i := 200) rfl) rfl
set_option maxRecDepth 100000 in
theorem q_441 : (Jvm.Cond.static ({ cls := "ElasticKernel", name := "wordOf", desc := "(LElasticKernel$Fraction;II)I" } : Jvm.MethodName)) ∈ lw_g := lw_t2 (List.mem_of_getElem? (i := 201) rfl) rfl
set_option maxRecDepth 100000 in
theorem q_442 : (Jvm.Cond.code ({ cls := "ElasticKernel", name := "wordOf", desc := "(LElasticKernel$Fraction;II)I" } : Jvm.MethodName) prog_1_method_13_code (3 : Nat) (Option.some Jvm.ClassFile.FieldType.int)) ∈ lw_g := lw_t2 (List.mem_of_getElem? (i := 202) rfl) rfl
set_option maxRecDepth 100000 in
theorem q_443 : (Jvm.Cond.methodLink "ElasticKernel" (163 : Nat) ({ cls := "ElasticKernel$Natural", name := "word", desc := "(I)I" } : Jvm.MethodName)) ∈ lw_g := lw_t2 (List.mem_of_getElem? (i := 203) rfl) rfl
set_option maxRecDepth 100000 in
theorem q_444 : (Jvm.Cond.methodLink "ElasticKernelLaw" (58 : Nat) ({ cls := "ElasticKernel", name := "total", desc := "(II)I" } : Jvm.MethodName)) ∈ lw_g := lw_t2 (List.mem_of_getElem? (i := 204) rfl) rfl
set_option maxRecDepth 100000 in
theorem q_445 : (Jvm.Cond.instanceMethod ({ cls := "ElasticKernel", name := "total", desc := "(II)I" } : Jvm.MethodName)) ∈ lw_g := lw_t2 (List.mem_of_getElem? (i := 205) rfl) rfl
set_option maxRecDepth 100000 in
theorem q_446 : (Jvm.Cond.selects "ElasticKernel" ({ cls := "ElasticKernel", name := "total", desc := "(II)I" } : Jvm.MethodName) ({ cls := "ElasticKernel", name := "total", desc := "(II)I" } : Jvm.MethodName)) ∈ lw_g := lw_t2 (List.mem_of_getElem? (i := 206) rfl) rfl
set_option maxRecDepth 100000 in
theorem q_447 : (Jvm.Cond.code ({ cls := "ElasticKernel", name := "total", desc := "(II)I" } : Jvm.MethodName) prog_1_method_9_code (3 : Nat) (Option.some Jvm.ClassFile.FieldType.int)) ∈ lw_g := lw_t2 (List.mem_of_getElem? (i := 207) rfl) rfl
set_option maxRecDepth 100000 in
theorem q_448 : (Jvm.Cond.methodLink "ElasticKernelLaw" (62 : Nat) ({ cls := "ElasticKernel", name := "state", desc := "(I)I" } : Jvm.MethodName)) ∈ lw_g := lw_t2 (List.mem_of_getElem? (i := 208) rfl) rfl
set_option maxRecDepth 100000 in
theorem q_449 : (Jvm.Cond.instanceMethod ({ cls := "ElasticKernel", name := "state", desc := "(I)I" } : Jvm.MethodName)) ∈ lw_g := lw_t2 (List.mem_of_getElem? (i := 209) rfl) rfl
set_option maxRecDepth 100000 in
theorem q_450 : (Jvm.Cond.selects "ElasticKernel" ({ cls := "ElasticKernel", name := "state", desc := "(I)I" } : Jvm.MethodName) ({ cls := "ElasticKernel", name := "state", desc := "(I)I" } : Jvm.MethodName)) ∈ lw_g := lw_t2 (List.mem_of_getElem? (i := 210) rfl) rfl
set_option maxRecDepth 100000 in
theorem q_451 : (Jvm.Cond.code ({ cls := "ElasticKernel", name := "state", desc := "(I)I" } : Jvm.MethodName) prog_1_method_10_code (2 : Nat) (Option.some Jvm.ClassFile.FieldType.int)) ∈ lw_g := lw_t2 (List.mem_of_getElem? (i := 211) rfl) rfl
set_option maxRecDepth 100000 in
theorem q_452 : (Jvm.Cond.methodLink "ElasticKernel" (147 : Nat) ({ cls := "ElasticKernel$Springs", name := "thousandthsInUse", desc := "()I" } : Jvm.MethodName)) ∈ lw_g := lw_t2 (List.mem_of_getElem? (i := 212) rfl) rfl
set_option maxRecDepth 100000 in
theorem q_453 : (Jvm.Cond.instanceMethod ({ cls := "ElasticKernel$Springs", name := "thousandthsInUse", desc := "()I" } : Jvm.MethodName)) ∈ lw_g := lw_t2 (List.mem_of_getElem? (i := 213) rfl) rfl
set_option maxRecDepth 100000 in
theorem q_454 : (Jvm.Cond.selects "ElasticKernel$Springs" ({ cls := "ElasticKernel$Springs", name := "thousandthsInUse", desc := "()I" } : Jvm.MethodName) ({ cls := "ElasticKernel$Springs", name := "thousandthsInUse", desc := "()I" } : Jvm.MethodName)) ∈ lw_g := lw_t2 (List.mem_of_getElem? (i := 214) rfl) rfl
set_option maxRecDepth 100000 in
theorem q_455 : (Jvm.Cond.code ({ cls := "ElasticKernel$Springs", name := "thousandthsInUse", desc := "()I" } : Jvm.MethodName) prog_6_method_3_code (1 : Nat) (Option.some Jvm.ClassFile.FieldType.int)) ∈ lw_g := lw_t2 (List.mem_of_getElem? (i := 215) rfl) rfl
set_option maxRecDepth 100000 in
theorem q_456 : (Jvm.Cond.methodLink "ElasticKernelLaw" (38 : Nat) ({ cls := "ElasticKernelLaw", name := "tick", desc := "(LElasticKernel;I[J)I" } : Jvm.MethodName)) ∈ lw_g := lw_t2 (List.mem_of_getElem? (i := 216) rfl) rfl
set_option maxRecDepth 100000 in
theorem q_457 : (Jvm.Cond.static ({ cls := "ElasticKernelLaw", name := "tick", desc := "(LElasticKernel;I[J)I" } : Jvm.MethodName)) ∈ lw_g := lw_t2 (List.mem_of_getElem? (i := 217) rfl) rfl
set_option maxRecDepth 100000 in
theorem q_459 : (Jvm.Cond.classLink "ElasticKernelLaw" (13 : Nat) "java/lang/IllegalArgumentException") ∈ lw_g := lw_t2 (List.mem_of_getElem? (i := 219) rfl) rfl
set_option maxRecDepth 100000 in
theorem q_460 : (Jvm.Cond.methodLink "ElasticKernelLaw" (7 : Nat) ({ cls := "ElasticKernel", name := "tick", desc := "(I)I" } : Jvm.MethodName)) ∈ lw_g := lw_t2 (List.mem_of_getElem? (i := 220) rfl) rfl
set_option maxRecDepth 100000 in
theorem q_461 : (Jvm.Cond.instanceMethod ({ cls := "ElasticKernel", name := "tick", desc := "(I)I" } : Jvm.MethodName)) ∈ lw_g := lw_t2 (List.mem_of_getElem? (i := 221) rfl) rfl
set_option maxRecDepth 100000 in
theorem q_462 : (Jvm.Cond.selects "ElasticKernel" ({ cls := "ElasticKernel", name := "tick", desc := "(I)I" } : Jvm.MethodName) ({ cls := "ElasticKernel", name := "tick", desc := "(I)I" } : Jvm.MethodName)) ∈ lw_g := lw_t2 (List.mem_of_getElem? (i := 222) rfl) rfl
set_option maxRecDepth 100000 in
theorem q_463 : (Jvm.Cond.code ({ cls := "ElasticKernel", name := "tick", desc := "(I)I" } : Jvm.MethodName) prog_1_method_6_code (6 : Nat) (Option.some Jvm.ClassFile.FieldType.int)) ∈ lw_g := lw_t2 (List.mem_of_getElem? (i := 223) rfl) rfl
set_option maxRecDepth 100000 in
theorem q_464 : (Jvm.Cond.classLink "ElasticKernel" (74 : Nat) "java/lang/IllegalArgumentException") ∈ lw_g := lw_t2 (List.mem_of_getElem? (i := 224) rfl) rfl
set_option maxRecDepth 100000 in
theorem q_465 : (Jvm.Cond.instantiable "java/lang/IllegalArgumentException" (6 : Nat)) ∈ lw_g := lw_t2 (List.mem_of_getElem? (i := 225) rfl) rfl
set_option maxRecDepth 100000 in
theorem q_473 : (Jvm.Cond.selects "java/lang/IllegalArgumentException" ({ cls := "java/lang/Throwable", name := "fillInStackTrace", desc := "(I)Ljava/lang/Throwable;" } : Jvm.MethodName) ({ cls := "java/lang/Throwable", name := "fillInStackTrace", desc := "(I)Ljava/lang/Throwable;" } : Jvm.MethodName)) ∈ lw_g := lw_t2 (List.mem_of_getElem? (i := 233) rfl) rfl
set_option maxRecDepth 100000 in
theorem q_474 : (Jvm.Cond.selects "java/lang/IllegalArgumentException" ({ cls := "java/lang/Throwable", name := "fillInStackTrace", desc := "()Ljava/lang/Throwable;" } : Jvm.MethodName) ({ cls := "java/lang/Throwable", name := "fillInStackTrace", desc := "()Ljava/lang/Throwable;" } : Jvm.MethodName)) ∈ lw_g := lw_t2 (List.mem_of_getElem? (i := 234) rfl) rfl
set_option maxRecDepth 100000 in
theorem q_475 : (Jvm.Cond.lays "java/lang/IllegalArgumentException" "java/lang/Throwable" "cause" "Ljava/lang/Throwable;") ∈ lw_g := lw_t2 (List.mem_of_getElem? (i := 235) rfl) rfl
set_option maxRecDepth 100000 in
theorem q_476 : (Jvm.Cond.lays "java/lang/Throwable" "java/lang/Throwable" "cause" "Ljava/lang/Throwable;") ∈ lw_g := lw_t2 (List.mem_of_getElem? (i := 236) rfl) rfl
set_option maxRecDepth 100000 in
theorem q_477 : (Jvm.Cond.lays "java/lang/IllegalArgumentException" "java/lang/Throwable" "stackTrace" "[Ljava/lang/StackTraceElement;") ∈ lw_g := lw_t2 (List.mem_of_getElem? (i := 237) rfl) rfl
set_option maxRecDepth 100000 in
theorem q_478 : (Jvm.Cond.lays "java/lang/Throwable" "java/lang/Throwable" "stackTrace" "[Ljava/lang/StackTraceElement;") ∈ lw_g := lw_t2 (List.mem_of_getElem? (i := 238) rfl) rfl
set_option maxRecDepth 100000 in
theorem q_479 : (Jvm.Cond.lays "java/lang/IllegalArgumentException" "java/lang/Throwable" "suppressedExceptions" "Ljava/util/List;") ∈ lw_g := lw_t2 (List.mem_of_getElem? (i := 239) rfl) rfl
set_option maxRecDepth 100000 in
theorem q_480 : (Jvm.Cond.lays "java/lang/Throwable" "java/lang/Throwable" "suppressedExceptions" "Ljava/util/List;") ∈ lw_g := lw_t3 (List.mem_of_getElem? (i := 0) rfl) rfl
set_option maxRecDepth 100000 in
theorem q_481 : (Jvm.Cond.lays "java/lang/IllegalArgumentException" "java/lang/Throwable" "detailMessage" "Ljava/lang/String;") ∈ lw_g := lw_t3 (List.mem_of_getElem? (i := 1) rfl) rfl
set_option maxRecDepth 100000 in
theorem q_482 : (Jvm.Cond.lays "java/lang/Throwable" "java/lang/Throwable" "detailMessage" "Ljava/lang/String;") ∈ lw_g := lw_t3 (List.mem_of_getElem? (i := 2) rfl) rfl
set_option maxRecDepth 100000 in
theorem q_483 : (Jvm.Cond.lays "java/lang/IllegalArgumentException" "java/lang/Throwable" "backtrace" "Ljava/lang/Object;") ∈ lw_g := lw_t3 (List.mem_of_getElem? (i := 3) rfl) rfl
set_option maxRecDepth 100000 in
theorem q_484 : (Jvm.Cond.lays "java/lang/Throwable" "java/lang/Throwable" "backtrace" "Ljava/lang/Object;") ∈ lw_g := lw_t3 (List.mem_of_getElem? (i := 4) rfl) rfl
set_option maxRecDepth 100000 in
theorem q_485 : (Jvm.Cond.fieldLink "java/lang/Throwable" (198 : Nat) "java/lang/Throwable" "backtrace" "Ljava/lang/Object;") ∈ lw_g := lw_t3 (List.mem_of_getElem? (i := 5) rfl) rfl
set_option maxRecDepth 100000 in
theorem q_487 : (Jvm.Cond.instanceMethod ({ cls := "java/lang/Throwable", name := "<init>", desc := "()V" } : Jvm.MethodName)) ∈ lw_g := lw_t3 (List.mem_of_getElem? (i := 7) rfl) rfl
set_option maxRecDepth 100000 in
theorem q_488 : (Jvm.Cond.code ({ cls := "java/lang/Throwable", name := "<init>", desc := "()V" } : Jvm.MethodName) prog_17_method_1_code (1 : Nat) (Option.none : Option Jvm.ClassFile.FieldType)) ∈ lw_g := lw_t3 (List.mem_of_getElem? (i := 8) rfl) rfl
set_option maxRecDepth 100000 in
theorem q_489 : (Jvm.Cond.methodLink "java/lang/Throwable" (1 : Nat) ({ cls := "java/lang/Object", name := "<init>", desc := "()V" } : Jvm.MethodName)) ∈ lw_g := lw_t3 (List.mem_of_getElem? (i := 9) rfl) rfl
set_option maxRecDepth 100000 in
theorem q_490 : (Jvm.Cond.fieldLink "java/lang/Throwable" (13 : Nat) "java/lang/Throwable" "UNASSIGNED_STACK" "[Ljava/lang/StackTraceElement;") ∈ lw_g := lw_t3 (List.mem_of_getElem? (i := 10) rfl) rfl
set_option maxRecDepth 100000 in
theorem q_492 : (Jvm.Cond.fieldLink "java/lang/Throwable" (20 : Nat) "java/lang/Throwable" "SUPPRESSED_SENTINEL" "Ljava/util/List;") ∈ lw_g := lw_t3 (List.mem_of_getElem? (i := 12) rfl) rfl
set_option maxRecDepth 100000 in
theorem q_494 : (Jvm.Cond.methodLink "java/lang/Throwable" (27 : Nat) ({ cls := "java/lang/Throwable", name := "fillInStackTrace", desc := "()Ljava/lang/Throwable;" } : Jvm.MethodName)) ∈ lw_g := lw_t3 (List.mem_of_getElem? (i := 14) rfl) rfl
set_option maxRecDepth 100000 in
theorem q_495 : (Jvm.Cond.instanceMethod ({ cls := "java/lang/Throwable", name := "fillInStackTrace", desc := "()Ljava/lang/Throwable;" } : Jvm.MethodName)) ∈ lw_g := lw_t3 (List.mem_of_getElem? (i := 15) rfl) rfl
set_option maxRecDepth 100000 in
theorem q_498 : (Jvm.Cond.methodLink "java/lang/Throwable" (202 : Nat) ({ cls := "java/lang/Throwable", name := "fillInStackTrace", desc := "(I)Ljava/lang/Throwable;" } : Jvm.MethodName)) ∈ lw_g := lw_t3 (List.mem_of_getElem? (i := 18) rfl) rfl
set_option maxRecDepth 100000 in
theorem q_500 : (Jvm.Cond.instanceMethod ({ cls := "java/lang/Throwable", name := "fillInStackTrace", desc := "(I)Ljava/lang/Throwable;" } : Jvm.MethodName)) ∈ lw_g := lw_t3 (List.mem_of_getElem? (i := 20) rfl) rfl
set_option maxRecDepth 100000 in
theorem q_501 : (Jvm.Cond.instantiable "java/lang/Throwable" (6 : Nat)) ∈ lw_g := lw_t3 (List.mem_of_getElem? (i := 21) rfl) rfl
set_option maxRecDepth 100000 in
theorem q_502 : (Jvm.Cond.native ({ cls := "java/lang/Throwable", name := "fillInStackTrace", desc := "(I)Ljava/lang/Throwable;" } : Jvm.MethodName)) ∈ lw_g := lw_t3 (List.mem_of_getElem? (i := 22) rfl) rfl
set_option maxRecDepth 100000 in
theorem q_504 : (Jvm.Cond.methodLink "ElasticKernel" (78 : Nat) ({ cls := "java/lang/IllegalArgumentException", name := "<init>", desc := "(Ljava/lang/String;)V" } : Jvm.MethodName)) ∈ lw_g := lw_t3 (List.mem_of_getElem? (i := 24) rfl) rfl
set_option maxRecDepth 100000 in
theorem q_505 : (Jvm.Cond.instanceMethod ({ cls := "java/lang/IllegalArgumentException", name := "<init>", desc := "(Ljava/lang/String;)V" } : Jvm.MethodName)) ∈ lw_g := lw_t3 (List.mem_of_getElem? (i := 25) rfl) rfl
set_option maxRecDepth 100000 in
theorem q_506 : (Jvm.Cond.code ({ cls := "java/lang/IllegalArgumentException", name := "<init>", desc := "(Ljava/lang/String;)V" } : Jvm.MethodName) prog_11_method_2_code (2 : Nat) (Option.none : Option Jvm.ClassFile.FieldType)) ∈ lw_g := lw_t3 (List.mem_of_getElem? (i := 26) rfl) rfl
set_option maxRecDepth 100000 in
theorem q_507 : (Jvm.Cond.methodLink "java/lang/IllegalArgumentException" (7 : Nat) ({ cls := "java/lang/RuntimeException", name := "<init>", desc := "(Ljava/lang/String;)V" } : Jvm.MethodName)) ∈ lw_g := lw_t3 (List.mem_of_getElem? (i := 27) rfl) rfl
set_option maxRecDepth 100000 in
theorem q_508 : (Jvm.Cond.instanceMethod ({ cls := "java/lang/RuntimeException", name := "<init>", desc := "(Ljava/lang/String;)V" } : Jvm.MethodName)) ∈ lw_g := lw_t3 (List.mem_of_getElem? (i := 28) rfl) rfl
set_option maxRecDepth 100000 in
theorem q_509 : (Jvm.Cond.code ({ cls := "java/lang/RuntimeException", name := "<init>", desc := "(Ljava/lang/String;)V" } : Jvm.MethodName) prog_14_method_2_code (2 : Nat) (Option.none : Option Jvm.ClassFile.FieldType)) ∈ lw_g := lw_t3 (List.mem_of_getElem? (i := 29) rfl) rfl
set_option maxRecDepth 100000 in
theorem q_510 : (Jvm.Cond.methodLink "java/lang/RuntimeException" (7 : Nat) ({ cls := "java/lang/Exception", name := "<init>", desc := "(Ljava/lang/String;)V" } : Jvm.MethodName)) ∈ lw_g := lw_t3 (List.mem_of_getElem? (i := 30) rfl) rfl
set_option maxRecDepth 100000 in
theorem q_511 : (Jvm.Cond.instanceMethod ({ cls := "java/lang/Exception", name := "<init>", desc := "(Ljava/lang/String;)V" } : Jvm.MethodName)) ∈ lw_g := lw_t3 (List.mem_of_getElem? (i := 31) rfl) rfl
set_option maxRecDepth 100000 in
theorem q_512 : (Jvm.Cond.code ({ cls := "java/lang/Exception", name := "<init>", desc := "(Ljava/lang/String;)V" } : Jvm.MethodName) prog_10_method_2_code (2 : Nat) (Option.none : Option Jvm.ClassFile.FieldType)) ∈ lw_g := lw_t3 (List.mem_of_getElem? (i := 32) rfl) rfl
set_option maxRecDepth 100000 in
theorem q_513 : (Jvm.Cond.methodLink "java/lang/Exception" (7 : Nat) ({ cls := "java/lang/Throwable", name := "<init>", desc := "(Ljava/lang/String;)V" } : Jvm.MethodName)) ∈ lw_g := lw_t3 (List.mem_of_getElem? (i := 33) rfl) rfl
set_option maxRecDepth 100000 in
theorem q_514 : (Jvm.Cond.instanceMethod ({ cls := "java/lang/Throwable", name := "<init>", desc := "(Ljava/lang/String;)V" } : Jvm.MethodName)) ∈ lw_g := lw_t3 (List.mem_of_getElem? (i := 34) rfl) rfl
set_option maxRecDepth 100000 in
theorem q_515 : (Jvm.Cond.code ({ cls := "java/lang/Throwable", name := "<init>", desc := "(Ljava/lang/String;)V" } : Jvm.MethodName) prog_17_method_2_code (2 : Nat) (Option.none : Option Jvm.ClassFile.FieldType)) ∈ lw_g := lw_t3 (List.mem_of_getElem? (i := 35) rfl) rfl
set_option maxRecDepth 100000 in
theorem q_516 : (Jvm.Cond.fieldLink "java/lang/Throwable" (198 : Nat) "java/lang/Throwable" "backtrace" "Ljava/lang/Object;") ∈ lw_g := lw_t3 (List.mem_of_getElem? (i := 36) rfl) rfl
set_option maxRecDepth 100000 in
theorem q_517 : (Jvm.Cond.fieldLink "java/lang/Throwable" (31 : Nat) "java/lang/Throwable" "detailMessage" "Ljava/lang/String;") ∈ lw_g := lw_t3 (List.mem_of_getElem? (i := 37) rfl) rfl
set_option maxRecDepth 100000 in
theorem q_518 : (Jvm.Cond.fieldLink "java/lang/Throwable" (7 : Nat) "java/lang/Throwable" "cause" "Ljava/lang/Throwable;") ∈ lw_g := lw_t3 (List.mem_of_getElem? (i := 38) rfl) rfl
set_option maxRecDepth 100000 in
theorem q_519 : (Jvm.Cond.fieldLink "java/lang/Throwable" (17 : Nat) "java/lang/Throwable" "stackTrace" "[Ljava/lang/StackTraceElement;") ∈ lw_g := lw_t3 (List.mem_of_getElem? (i := 39) rfl) rfl
set_option maxRecDepth 100000 in
theorem q_520 : (Jvm.Cond.fieldLink "java/lang/Throwable" (24 : Nat) "java/lang/Throwable" "suppressedExceptions" "Ljava/util/List;") ∈ lw_g := lw_t3 (List.mem_of_getElem? (i := 40) rfl) rfl
set_option maxRecDepth 100000 in
theorem q_525 : (Jvm.Cond.lays "java/lang/IllegalArgumentException" "java/lang/Throwable" "depth" "I") ∈ lw_g := lw_t3 (List.mem_of_getElem? (i := 45) rfl) rfl
set_option maxRecDepth 100000 in
theorem q_529 : (Jvm.Cond.arrayClass Jvm.ClassFile.FieldType.byte) ∈ lw_g := lw_t3 (List.mem_of_getElem? (i := 49) rfl) rfl
set_option maxRecDepth 100000 in
theorem q_530 : (Jvm.Cond.methodLink "ElasticKernel" (81 : Nat) ({ cls := "ElasticKernel", name := "beginTick", desc := "()V" } : Jvm.MethodName)) ∈ lw_g := lw_t3 (List.mem_of_getElem? (i := 50) rfl) rfl
set_option maxRecDepth 100000 in
theorem q_532 : (Jvm.Cond.instanceMethod ({ cls := "ElasticKernel", name := "beginTick", desc := "()V" } : Jvm.MethodName)) ∈ lw_g := lw_t3 (List.mem_of_getElem? (i := 52) rfl) rfl
set_option maxRecDepth 100000 in
theorem q_533 : (Jvm.Cond.code ({ cls := "ElasticKernel", name := "beginTick", desc := "()V" } : Jvm.MethodName) prog_1_method_16_code (5 : Nat) (Option.none : Option Jvm.ClassFile.FieldType)) ∈ lw_g := lw_t3 (List.mem_of_getElem? (i := 53) rfl) rfl
set_option maxRecDepth 100000 in
theorem q_534 : (Jvm.Cond.methodLink "ElasticKernel" (200 : Nat) ({ cls := "ElasticKernel", name := "dismissLeavers", desc := "()V" } : Jvm.MethodName)) ∈ lw_g := lw_t3 (List.mem_of_getElem? (i := 54) rfl) rfl
set_option maxRecDepth 100000 in
theorem q_536 : (Jvm.Cond.instanceMethod ({ cls := "ElasticKernel", name := "dismissLeavers", desc := "()V" } : Jvm.MethodName)) ∈ lw_g := lw_t3 (List.mem_of_getElem? (i := 56) rfl) rfl
set_option maxRecDepth 100000 in
theorem q_537 : (Jvm.Cond.code ({ cls := "ElasticKernel", name := "dismissLeavers", desc := "()V" } : Jvm.MethodName) prog_1_method_17_code (3 : Nat) (Option.none : Option Jvm.ClassFile.FieldType)) ∈ lw_g := lw_t3 (List.mem_of_getElem? (i := 57) rfl) rfl
set_option maxRecDepth 100000 in
theorem q_538 : (Jvm.Cond.methodLink "ElasticKernel" (203 : Nat) ({ cls := "ElasticKernel", name := "countIfLate", desc := "(LElasticKernel$Task;)V" } : Jvm.MethodName)) ∈ lw_g := lw_t3 (List.mem_of_getElem? (i := 58) rfl) rfl
set_option maxRecDepth 100000 in
theorem q_540 : (Jvm.Cond.instanceMethod ({ cls := "ElasticKernel", name := "countIfLate", desc := "(LElasticKernel$Task;)V" } : Jvm.MethodName)) ∈ lw_g := lw_t3 (List.mem_of_getElem? (i := 60) rfl) rfl
set_option maxRecDepth 100000 in
theorem q_541 : (Jvm.Cond.code ({ cls := "ElasticKernel", name := "countIfLate", desc := "(LElasticKernel$Task;)V" } : Jvm.MethodName) prog_1_method_18_code (2 : Nat) (Option.none : Option Jvm.ClassFile.FieldType)) ∈ lw_g := lw_t3 (List.mem_of_getElem? (i := 61) rfl) rfl
set_option maxRecDepth 100000 in
theorem q_542 : (Jvm.Cond.methodLink "ElasticKernel" (206 : Nat) ({ cls := "ElasticKernel$Task", name := "release", desc := "(IZ)V" } : Jvm.MethodName)) ∈ lw_g := lw_t3 (List.mem_of_getElem? (i := 62) rfl) rfl
set_option maxRecDepth 100000 in
theorem q_543 : (Jvm.Cond.instanceMethod ({ cls := "ElasticKernel$Task", name := "release", desc := "(IZ)V" } : Jvm.MethodName)) ∈ lw_g := lw_t3 (List.mem_of_getElem? (i := 63) rfl) rfl
set_option maxRecDepth 100000 in
theorem q_544 : (Jvm.Cond.selects "ElasticKernel$Task" ({ cls := "ElasticKernel$Task", name := "release", desc := "(IZ)V" } : Jvm.MethodName) ({ cls := "ElasticKernel$Task", name := "release", desc := "(IZ)V" } : Jvm.MethodName)) ∈ lw_g := lw_t3 (List.mem_of_getElem? (i := 64) rfl) rfl
set_option maxRecDepth 100000 in
theorem q_545 : (Jvm.Cond.code ({ cls := "ElasticKernel$Task", name := "release", desc := "(IZ)V" } : Jvm.MethodName) prog_7_method_6_code (3 : Nat) (Option.none : Option Jvm.ClassFile.FieldType)) ∈ lw_g := lw_t3 (List.mem_of_getElem? (i := 65) rfl) rfl
set_option maxRecDepth 100000 in
theorem q_546 : (Jvm.Cond.methodLink "ElasticKernel$Task" (63 : Nat) ({ cls := "ElasticKernel$Task", name := "finish", desc := "(I)V" } : Jvm.MethodName)) ∈ lw_g := lw_t3 (List.mem_of_getElem? (i := 66) rfl) rfl
set_option maxRecDepth 100000 in
theorem q_548 : (Jvm.Cond.instanceMethod ({ cls := "ElasticKernel$Task", name := "finish", desc := "(I)V" } : Jvm.MethodName)) ∈ lw_g := lw_t3 (List.mem_of_getElem? (i := 68) rfl) rfl
set_option maxRecDepth 100000 in
theorem q_549 : (Jvm.Cond.code ({ cls := "ElasticKernel$Task", name := "finish", desc := "(I)V" } : Jvm.MethodName) prog_7_method_8_code (2 : Nat) (Option.none : Option Jvm.ClassFile.FieldType)) ∈ lw_g := lw_t3 (List.mem_of_getElem? (i := 69) rfl) rfl
set_option maxRecDepth 100000 in
theorem q_550 : (Jvm.Cond.methodLink "ElasticKernel" (84 : Nat) ({ cls := "ElasticKernel", name := "mostUrgent", desc := "()LElasticKernel$Task;" } : Jvm.MethodName)) ∈ lw_g := lw_t3 (List.mem_of_getElem? (i := 70) rfl) rfl
set_option maxRecDepth 100000 in
theorem q_552 : (Jvm.Cond.instanceMethod ({ cls := "ElasticKernel", name := "mostUrgent", desc := "()LElasticKernel$Task;" } : Jvm.MethodName)) ∈ lw_g := lw_t3 (List.mem_of_getElem? (i := 72) rfl) rfl
set_option maxRecDepth 100000 in
theorem q_553 : (Jvm.Cond.code ({ cls := "ElasticKernel", name := "mostUrgent", desc := "()LElasticKernel$Task;" } : Jvm.MethodName) prog_1_method_19_code (4 : Nat) (Option.some (Jvm.ClassFile.FieldType.object "ElasticKernel$Task"))) ∈ lw_g := lw_t3 (List.mem_of_getElem? (i := 73) rfl) rfl
set_option maxRecDepth 100000 in
theorem q_554 : (Jvm.Cond.methodLink "ElasticKernel" (88 : Nat) ({ cls := "ElasticKernel", name := "ticksAlike", desc := "(LElasticKernel$Task;)I" } : Jvm.MethodName)) ∈ lw_g := lw_t3 (List.mem_of_getElem? (i := 74) rfl) rfl
set_option maxRecDepth 100000 in
theorem q_556 : (Jvm.Cond.instanceMethod ({ cls := "ElasticKernel", name := "ticksAlike", desc := "(LElasticKernel$Task;)I" } : Jvm.MethodName)) ∈ lw_g := lw_t3 (List.mem_of_getElem? (i := 76) rfl) rfl
set_option maxRecDepth 100000 in
theorem q_557 : (Jvm.Cond.code ({ cls := "ElasticKernel", name := "ticksAlike", desc := "(LElasticKernel$Task;)I" } : Jvm.MethodName) prog_1_method_20_code (6 : Nat) (Option.some Jvm.ClassFile.FieldType.int)) ∈ lw_g := lw_t3 (List.mem_of_getElem? (i := 77) rfl) rfl
set_option maxRecDepth 100000 in
theorem q_558 : (Jvm.Cond.methodLink "ElasticKernel" (92 : Nat) ({ cls := "java/lang/Math", name := "min", desc := "(II)I" } : Jvm.MethodName)) ∈ lw_g := lw_t3 (List.mem_of_getElem? (i := 78) rfl) rfl
set_option maxRecDepth 100000 in
theorem q_559 : (Jvm.Cond.static ({ cls := "java/lang/Math", name := "min", desc := "(II)I" } : Jvm.MethodName)) ∈ lw_g := lw_t3 (List.mem_of_getElem? (i := 79) rfl) rfl
set_option maxRecDepth 100000 in
theorem q_560 : (Jvm.Cond.code ({ cls := "java/lang/Math", name := "min", desc := "(II)I" } : Jvm.MethodName) prog_13_method_69_code (2 : Nat) (Option.some Jvm.ClassFile.FieldType.int)) ∈ lw_g := lw_t3 (List.mem_of_getElem? (i := 80) rfl) rfl
set_option maxRecDepth 100000 in
theorem q_561 : (Jvm.Cond.methodLink "ElasticKernel" (104 : Nat) ({ cls := "ElasticKernel$Task", name := "work", desc := "(II)V" } : Jvm.MethodName)) ∈ lw_g := lw_t3 (List.mem_of_getElem? (i := 81) rfl) rfl
set_option maxRecDepth 100000 in
theorem q_562 : (Jvm.Cond.instanceMethod ({ cls := "ElasticKernel$Task", name := "work", desc := "(II)V" } : Jvm.MethodName)) ∈ lw_g := lw_t3 (List.mem_of_getElem? (i := 82) rfl) rfl
set_option maxRecDepth 100000 in
theorem q_563 : (Jvm.Cond.selects "ElasticKernel$Task" ({ cls := "ElasticKernel$Task", name := "work", desc := "(II)V" } : Jvm.MethodName) ({ cls := "ElasticKernel$Task", name := "work", desc := "(II)V" } : Jvm.MethodName)) ∈ lw_g := lw_t3 (List.mem_of_getElem? (i := 83) rfl) rfl
set_option maxRecDepth 100000 in
theorem q_564 : (Jvm.Cond.code ({ cls := "ElasticKernel$Task", name := "work", desc := "(II)V" } : Jvm.MethodName) prog_7_method_7_code (3 : Nat) (Option.none : Option Jvm.ClassFile.FieldType)) ∈ lw_g := lw_t3 (List.mem_of_getElem? (i := 84) rfl) rfl
set_option maxRecDepth 100000 in
theorem q_565 : (Jvm.Cond.classLink "ElasticKernelLaw" (16 : Nat) "ElasticKernelModel") ∈ lw_g := lw_t3 (List.mem_of_getElem? (i := 85) rfl) rfl
set_option maxRecDepth 100000 in
theorem q_566 : (Jvm.Cond.instantiable "ElasticKernelModel" (25 : Nat)) ∈ lw_g := lw_t3 (List.mem_of_getElem? (i := 86) rfl) rfl
set_option maxRecDepth 100000 in
theorem q_567 : (Jvm.Cond.methodLink "ElasticKernelLaw" (18 : Nat) ({ cls := "ElasticKernelModel", name := "<init>", desc := "()V" } : Jvm.MethodName)) ∈ lw_g := lw_t3 (List.mem_of_getElem? (i := 87) rfl) rfl
set_option maxRecDepth 100000 in
theorem q_568 : (Jvm.Cond.instanceMethod ({ cls := "ElasticKernelModel", name := "<init>", desc := "()V" } : Jvm.MethodName)) ∈ lw_g := lw_t3 (List.mem_of_getElem? (i := 88) rfl) rfl
set_option maxRecDepth 100000 in
theorem q_569 : (Jvm.Cond.code ({ cls := "ElasticKernelModel", name := "<init>", desc := "()V" } : Jvm.MethodName) prog_9_method_1_code (1 : Nat) (Option.none : Option Jvm.ClassFile.FieldType)) ∈ lw_g := lw_t3 (List.mem_of_getElem? (i := 89) rfl) rfl
set_option maxRecDepth 100000 in
theorem q_570 : (Jvm.Cond.methodLink "ElasticKernelModel" (1 : Nat) ({ cls := "java/lang/Object", name := "<init>", desc := "()V" } : Jvm.MethodName)) ∈ lw_g := lw_t3 (List.mem_of_getElem? (i := 90) rfl) rfl
set_option maxRecDepth 100000 in
theorem q_571 : (Jvm.Cond.methodLink "ElasticKernelModel" (66 : Nat) ({ cls := "ElasticKernelModel", name := "be", desc := "(IJ)V" } : Jvm.MethodName)) ∈ lw_g := lw_t3 (List.mem_of_getElem? (i := 91) rfl) rfl
set_option maxRecDepth 100000 in
theorem q_573 : (Jvm.Cond.instanceMethod ({ cls := "ElasticKernelModel", name := "be", desc := "(IJ)V" } : Jvm.MethodName)) ∈ lw_g := lw_t3 (List.mem_of_getElem? (i := 93) rfl) rfl
set_option maxRecDepth 100000 in
theorem q_574 : (Jvm.Cond.code ({ cls := "ElasticKernelModel", name := "be", desc := "(IJ)V" } : Jvm.MethodName) prog_9_method_3_code (5 : Nat) (Option.none : Option Jvm.ClassFile.FieldType)) ∈ lw_g := lw_t3 (List.mem_of_getElem? (i := 94) rfl) rfl
set_option maxRecDepth 100000 in
theorem q_575 : (Jvm.Cond.constantLong "ElasticKernelModel" (73 : Nat) (16777215 : Int64)) ∈ lw_g := lw_t3 (List.mem_of_getElem? (i := 95) rfl) rfl
set_option maxRecDepth 100000 in
theorem q_576 : (Jvm.Cond.fieldLink "ElasticKernelModel" (70 : Nat) "ElasticKernelModel" "code" "I") ∈ lw_g := lw_t3 (List.mem_of_getElem? (i := 96) rfl) rfl
set_option maxRecDepth 100000 in
theorem q_577 : (Jvm.Cond.fieldLink "ElasticKernelModel" (155 : Nat) "ElasticKernelModel" "clock" "I") ∈ lw_g := lw_t3 (List.mem_of_getElem? (i := 97) rfl) rfl
set_option maxRecDepth 100000 in
theorem q_578 : (Jvm.Cond.fieldLink "ElasticKernelModel" (7 : Nat) "ElasticKernelModel" "allowed" "I") ∈ lw_g := lw_t3 (List.mem_of_getElem? (i := 98) rfl) rfl
set_option maxRecDepth 100000 in
theorem q_579 : (Jvm.Cond.fieldLink "ElasticKernelModel" (176 : Nat) "ElasticKernelModel" "missed" "I") ∈ lw_g := lw_t3 (List.mem_of_getElem? (i := 99) rfl) rfl
set_option maxRecDepth 100000 in
theorem q_580 : (Jvm.Cond.fieldLink "ElasticKernelModel" (128 : Nat) "ElasticKernelModel" "solves" "I") ∈ lw_g := lw_t3 (List.mem_of_getElem? (i := 100) rfl) rfl
set_option maxRecDepth 100000 in
theorem q_581 : (Jvm.Cond.fieldLink "ElasticKernelModel" (152 : Nat) "ElasticKernelModel" "instant" "I") ∈ lw_g := lw_t3 (List.mem_of_getElem? (i := 101) rfl) rfl
set_option maxRecDepth 100000 in
theorem q_582 : (Jvm.Cond.fieldLink "ElasticKernelModel" (167 : Nat) "ElasticKernelModel" "refused" "I") ∈ lw_g := lw_t3 (List.mem_of_getElem? (i := 102) rfl) rfl
set_option maxRecDepth 100000 in
theorem q_583 : (Jvm.Cond.fieldLink "ElasticKernelModel" (105 : Nat) "ElasticKernelModel" "many" "I") ∈ lw_g := lw_t3 (List.mem_of_getElem? (i := 103) rfl) rfl
set_option maxRecDepth 100000 in
theorem q_584 : (Jvm.Cond.fieldLink "ElasticKernelModel" (13 : Nat) "ElasticKernelModel" "id" "[I") ∈ lw_g := lw_t3 (List.mem_of_getElem? (i := 104) rfl) rfl
set_option maxRecDepth 100000 in
theorem q_585 : (Jvm.Cond.fieldLink "ElasticKernelModel" (17 : Nat) "ElasticKernelModel" "cost" "[I") ∈ lw_g := lw_t3 (List.mem_of_getElem? (i := 105) rfl) rfl
set_option maxRecDepth 100000 in
theorem q_586 : (Jvm.Cond.fieldLink "ElasticKernelModel" (20 : Nat) "ElasticKernelModel" "shortest" "[I") ∈ lw_g := lw_t3 (List.mem_of_getElem? (i := 106) rfl) rfl
set_option maxRecDepth 100000 in
theorem q_587 : (Jvm.Cond.fieldLink "ElasticKernelModel" (23 : Nat) "ElasticKernelModel" "longest" "[I") ∈ lw_g := lw_t3 (List.mem_of_getElem? (i := 107) rfl) rfl
set_option maxRecDepth 100000 in
theorem q_588 : (Jvm.Cond.fieldLink "ElasticKernelModel" (26 : Nat) "ElasticKernelModel" "stiff" "[I") ∈ lw_g := lw_t3 (List.mem_of_getElem? (i := 108) rfl) rfl
set_option maxRecDepth 100000 in
theorem q_589 : (Jvm.Cond.fieldLink "ElasticKernelModel" (29 : Nat) "ElasticKernelModel" "state" "[I") ∈ lw_g := lw_t3 (List.mem_of_getElem? (i := 109) rfl) rfl
set_option maxRecDepth 100000 in
theorem q_590 : (Jvm.Cond.fieldLink "ElasticKernelModel" (32 : Nat) "ElasticKernelModel" "period" "[I") ∈ lw_g := lw_t3 (List.mem_of_getElem? (i := 110) rfl) rfl
set_option maxRecDepth 100000 in
theorem q_591 : (Jvm.Cond.fieldLink "ElasticKernelModel" (35 : Nat) "ElasticKernelModel" "solved" "[I") ∈ lw_g := lw_t3 (List.mem_of_getElem? (i := 111) rfl) rfl
set_option maxRecDepth 100000 in
theorem q_592 : (Jvm.Cond.fieldLink "ElasticKernelModel" (38 : Nat) "ElasticKernelModel" "ends" "[I") ∈ lw_g := lw_t3 (List.mem_of_getElem? (i := 112) rfl) rfl
set_option maxRecDepth 100000 in
theorem q_593 : (Jvm.Cond.fieldLink "ElasticKernelModel" (41 : Nat) "ElasticKernelModel" "needs" "[I") ∈ lw_g := lw_t3 (List.mem_of_getElem? (i := 113) rfl) rfl
set_option maxRecDepth 100000 in
theorem q_594 : (Jvm.Cond.fieldLink "ElasticKernelModel" (44 : Nat) "ElasticKernelModel" "told" "[I") ∈ lw_g := lw_t3 (List.mem_of_getElem? (i := 114) rfl) rfl
set_option maxRecDepth 100000 in
theorem q_595 : (Jvm.Cond.fieldLink "ElasticKernelModel" (47 : Nat) "ElasticKernelModel" "done" "[I") ∈ lw_g := lw_t3 (List.mem_of_getElem? (i := 115) rfl) rfl
set_option maxRecDepth 100000 in
theorem q_596 : (Jvm.Cond.fieldLink "ElasticKernelModel" (50 : Nat) "ElasticKernelModel" "latest" "[I") ∈ lw_g := lw_t3 (List.mem_of_getElem? (i := 116) rfl) rfl
set_option maxRecDepth 100000 in
theorem q_597 : (Jvm.Cond.fieldLink "ElasticKernelModel" (53 : Nat) "ElasticKernelModel" "due" "[I") ∈ lw_g := lw_t3 (List.mem_of_getElem? (i := 117) rfl) rfl
set_option maxRecDepth 100000 in
theorem q_598 : (Jvm.Cond.fieldLink "ElasticKernelModel" (56 : Nat) "ElasticKernelModel" "least" "[Z") ∈ lw_g := lw_t3 (List.mem_of_getElem? (i := 118) rfl) rfl
set_option maxRecDepth 100000 in
theorem q_599 : (Jvm.Cond.fieldLink "ElasticKernelModel" (60 : Nat) "ElasticKernelModel" "word" "[I") ∈ lw_g := lw_t3 (List.mem_of_getElem? (i := 119) rfl) rfl
set_option maxRecDepth 100000 in
theorem q_600 : (Jvm.Cond.fieldLink "ElasticKernelModel" (63 : Nat) "ElasticKernelModel" "rank" "[I") ∈ lw_g := lw_t3 (List.mem_of_getElem? (i := 120) rfl) rfl
set_option maxRecDepth 100000 in
theorem q_601 : (Jvm.Cond.lays "ElasticKernelModel" "ElasticKernelModel" "code" "I") ∈ lw_g := lw_t3 (List.mem_of_getElem? (i := 121) rfl) rfl
set_option maxRecDepth 100000 in
theorem q_603 : (Jvm.Cond.lays "ElasticKernelModel" "ElasticKernelModel" "clock" "I") ∈ lw_g := lw_t3 (List.mem_of_getElem? (i := 123) rfl) rfl
set_option maxRecDepth 100000 in
theorem q_605 : (Jvm.Cond.lays "ElasticKernelModel" "ElasticKernelModel" "allowed" "I") ∈ lw_g := lw_t3 (List.mem_of_getElem? (i := 125) rfl) rfl
set_option maxRecDepth 100000 in
theorem q_607 : (Jvm.Cond.lays "ElasticKernelModel" "ElasticKernelModel" "missed" "I") ∈ lw_g := lw_t3 (List.mem_of_getElem? (i := 127) rfl) rfl
set_option maxRecDepth 100000 in
theorem q_609 : (Jvm.Cond.lays "ElasticKernelModel" "ElasticKernelModel" "solves" "I") ∈ lw_g := lw_t3 (List.mem_of_getElem? (i := 129) rfl) rfl
set_option maxRecDepth 100000 in
theorem q_611 : (Jvm.Cond.lays "ElasticKernelModel" "ElasticKernelModel" "instant" "I") ∈ lw_g := lw_t3 (List.mem_of_getElem? (i := 131) rfl) rfl
set_option maxRecDepth 100000 in
theorem q_613 : (Jvm.Cond.lays "ElasticKernelModel" "ElasticKernelModel" "refused" "I") ∈ lw_g := lw_t3 (List.mem_of_getElem? (i := 133) rfl) rfl
set_option maxRecDepth 100000 in
theorem q_615 : (Jvm.Cond.lays "ElasticKernelModel" "ElasticKernelModel" "many" "I") ∈ lw_g := lw_t3 (List.mem_of_getElem? (i := 135) rfl) rfl
set_option maxRecDepth 100000 in
theorem q_617 : (Jvm.Cond.laysFinal "ElasticKernelModel" "ElasticKernelModel" "id" "[I") ∈ lw_g := lw_t3 (List.mem_of_getElem? (i := 137) rfl) rfl
set_option maxRecDepth 100000 in
theorem q_619 : (Jvm.Cond.laysFinal "ElasticKernelModel" "ElasticKernelModel" "cost" "[I") ∈ lw_g := lw_t3 (List.mem_of_getElem? (i := 139) rfl) rfl
set_option maxRecDepth 100000 in
theorem q_621 : (Jvm.Cond.laysFinal "ElasticKernelModel" "ElasticKernelModel" "shortest" "[I") ∈ lw_g := lw_t3 (List.mem_of_getElem? (i := 141) rfl) rfl
set_option maxRecDepth 100000 in
theorem q_623 : (Jvm.Cond.laysFinal "ElasticKernelModel" "ElasticKernelModel" "longest" "[I") ∈ lw_g := lw_t3 (List.mem_of_getElem? (i := 143) rfl) rfl
set_option maxRecDepth 100000 in
theorem q_625 : (Jvm.Cond.laysFinal "ElasticKernelModel" "ElasticKernelModel" "stiff" "[I") ∈ lw_g := lw_t3 (List.mem_of_getElem? (i := 145) rfl) rfl
set_option maxRecDepth 100000 in
theorem q_627 : (Jvm.Cond.laysFinal "ElasticKernelModel" "ElasticKernelModel" "state" "[I") ∈ lw_g := lw_t3 (List.mem_of_getElem? (i := 147) rfl) rfl
set_option maxRecDepth 100000 in
theorem q_629 : (Jvm.Cond.laysFinal "ElasticKernelModel" "ElasticKernelModel" "period" "[I") ∈ lw_g := lw_t3 (List.mem_of_getElem? (i := 149) rfl) rfl
set_option maxRecDepth 100000 in
theorem q_631 : (Jvm.Cond.laysFinal "ElasticKernelModel" "ElasticKernelModel" "solved" "[I") ∈ lw_g := lw_t3 (List.mem_of_getElem? (i := 151) rfl) rfl
set_option maxRecDepth 100000 in
theorem q_633 : (Jvm.Cond.laysFinal "ElasticKernelModel" "ElasticKernelModel" "ends" "[I") ∈ lw_g := lw_t3 (List.mem_of_getElem? (i := 153) rfl) rfl
set_option maxRecDepth 100000 in
theorem q_635 : (Jvm.Cond.laysFinal "ElasticKernelModel" "ElasticKernelModel" "needs" "[I") ∈ lw_g := lw_t3 (List.mem_of_getElem? (i := 155) rfl) rfl
set_option maxRecDepth 100000 in
theorem q_637 : (Jvm.Cond.laysFinal "ElasticKernelModel" "ElasticKernelModel" "told" "[I") ∈ lw_g := lw_t3 (List.mem_of_getElem? (i := 157) rfl) rfl
set_option maxRecDepth 100000 in
theorem q_639 : (Jvm.Cond.laysFinal "ElasticKernelModel" "ElasticKernelModel" "done" "[I") ∈ lw_g := lw_t3 (List.mem_of_getElem? (i := 159) rfl) rfl
set_option maxRecDepth 100000 in
theorem q_641 : (Jvm.Cond.laysFinal "ElasticKernelModel" "ElasticKernelModel" "latest" "[I") ∈ lw_g := lw_t3 (List.mem_of_getElem? (i := 161) rfl) rfl
set_option maxRecDepth 100000 in
theorem q_643 : (Jvm.Cond.laysFinal "ElasticKernelModel" "ElasticKernelModel" "due" "[I") ∈ lw_g := lw_t3 (List.mem_of_getElem? (i := 163) rfl) rfl
set_option maxRecDepth 100000 in
theorem q_645 : (Jvm.Cond.laysFinal "ElasticKernelModel" "ElasticKernelModel" "least" "[Z") ∈ lw_g := lw_t3 (List.mem_of_getElem? (i := 165) rfl) rfl
set_option maxRecDepth 100000 in
theorem q_647 : (Jvm.Cond.laysFinal "ElasticKernelModel" "ElasticKernelModel" "word" "[I") ∈ lw_g := lw_t3 (List.mem_of_getElem? (i := 167) rfl) rfl
set_option maxRecDepth 100000 in
theorem q_649 : (Jvm.Cond.laysFinal "ElasticKernelModel" "ElasticKernelModel" "rank" "[I") ∈ lw_g := lw_t3 (List.mem_of_getElem? (i := 169) rfl) rfl
set_option maxRecDepth 100000 in
theorem q_652 : (Jvm.Cond.arrayClass Jvm.ClassFile.FieldType.boolean) ∈ lw_g := lw_t3 (List.mem_of_getElem? (i := 172) rfl) rfl
set_option maxRecDepth 100000 in
theorem q_653 : (Jvm.Cond.methodLink "ElasticKernelLaw" (44 : Nat) ({ cls := "ElasticKernelModel", name := "thrown", desc := "()I" } : Jvm.MethodName)) ∈ lw_g := lw_t3 (List.mem_of_getElem? (i := 173) rfl) rfl
set_option maxRecDepth 100000 in
theorem q_654 : (Jvm.Cond.instanceMethod ({ cls := "ElasticKernelModel", name := "thrown", desc := "()I" } : Jvm.MethodName)) ∈ lw_g := lw_t3 (List.mem_of_getElem? (i := 174) rfl) rfl
set_option maxRecDepth 100000 in
theorem q_655 : (Jvm.Cond.selects "ElasticKernelModel" ({ cls := "ElasticKernelModel", name := "thrown", desc := "()I" } : Jvm.MethodName) ({ cls := "ElasticKernelModel", name := "thrown", desc := "()I" } : Jvm.MethodName)) ∈ lw_g := lw_t3 (List.mem_of_getElem? (i := 175) rfl) rfl
set_option maxRecDepth 100000 in
theorem q_656 : (Jvm.Cond.code ({ cls := "ElasticKernelModel", name := "thrown", desc := "()I" } : Jvm.MethodName) prog_9_method_2_code (1 : Nat) (Option.some Jvm.ClassFile.FieldType.int)) ∈ lw_g := lw_t3 (List.mem_of_getElem? (i := 176) rfl) rfl
set_option maxRecDepth 100000 in
theorem q_657 : (Jvm.Cond.methodLink "ElasticKernelLaw" (23 : Nat) ({ cls := "ElasticKernelModel", name := "add", desc := "(IIIII)I" } : Jvm.MethodName)) ∈ lw_g := lw_t3 (List.mem_of_getElem? (i := 177) rfl) rfl
set_option maxRecDepth 100000 in
theorem q_658 : (Jvm.Cond.instanceMethod ({ cls := "ElasticKernelModel", name := "add", desc := "(IIIII)I" } : Jvm.MethodName)) ∈ lw_g := lw_t3 (List.mem_of_getElem? (i := 178) rfl) rfl
set_option maxRecDepth 100000 in
theorem q_659 : (Jvm.Cond.selects "ElasticKernelModel" ({ cls := "ElasticKernelModel", name := "add", desc := "(IIIII)I" } : Jvm.MethodName) ({ cls := "ElasticKernelModel", name := "add", desc := "(IIIII)I" } : Jvm.MethodName)) ∈ lw_g := lw_t3 (List.mem_of_getElem? (i := 179) rfl) rfl
set_option maxRecDepth 100000 in
theorem q_660 : (Jvm.Cond.code ({ cls := "ElasticKernelModel", name := "add", desc := "(IIIII)I" } : Jvm.MethodName) prog_9_method_30_code (8 : Nat) (Option.some Jvm.ClassFile.FieldType.int)) ∈ lw_g := lw_t3 (List.mem_of_getElem? (i := 180) rfl) rfl
set_option maxRecDepth 100000 in
theorem q_661 : (Jvm.Cond.methodLink "ElasticKernelModel" (161 : Nat) ({ cls := "ElasticKernelModel", name := "find", desc := "(I)I" } : Jvm.MethodName)) ∈ lw_g := lw_t3 (List.mem_of_getElem? (i := 181) rfl) rfl
set_option maxRecDepth 100000 in
theorem q_663 : (Jvm.Cond.instanceMethod ({ cls := "ElasticKernelModel", name := "find", desc := "(I)I" } : Jvm.MethodName)) ∈ lw_g := lw_t3 (List.mem_of_getElem? (i := 183) rfl) rfl
set_option maxRecDepth 100000 in
theorem q_664 : (Jvm.Cond.code ({ cls := "ElasticKernelModel", name := "find", desc := "(I)I" } : Jvm.MethodName) prog_9_method_26_code (3 : Nat) (Option.some Jvm.ClassFile.FieldType.int)) ∈ lw_g := lw_t3 (List.mem_of_getElem? (i := 184) rfl) rfl
set_option maxRecDepth 100000 in
theorem q_665 : (Jvm.Cond.methodLink "ElasticKernelModel" (158 : Nat) ({ cls := "ElasticKernelModel", name := "move", desc := "(II)V" } : Jvm.MethodName)) ∈ lw_g := lw_t3 (List.mem_of_getElem? (i := 185) rfl) rfl
set_option maxRecDepth 100000 in
theorem q_667 : (Jvm.Cond.instanceMethod ({ cls := "ElasticKernelModel", name := "move", desc := "(II)V" } : Jvm.MethodName)) ∈ lw_g := lw_t3 (List.mem_of_getElem? (i := 187) rfl) rfl
set_option maxRecDepth 100000 in
theorem q_668 : (Jvm.Cond.code ({ cls := "ElasticKernelModel", name := "move", desc := "(II)V" } : Jvm.MethodName) prog_9_method_27_code (3 : Nat) (Option.none : Option Jvm.ClassFile.FieldType)) ∈ lw_g := lw_t3 (List.mem_of_getElem? (i := 188) rfl) rfl
set_option maxRecDepth 100000 in
theorem q_669 : (Jvm.Cond.methodLink "ElasticKernelModel" (87 : Nat) ({ cls := "ElasticKernelModel", name := "copy", desc := "(II)V" } : Jvm.MethodName)) ∈ lw_g := lw_t3 (List.mem_of_getElem? (i := 189) rfl) rfl
set_option maxRecDepth 100000 in
theorem q_671 : (Jvm.Cond.instanceMethod ({ cls := "ElasticKernelModel", name := "copy", desc := "(II)V" } : Jvm.MethodName)) ∈ lw_g := lw_t3 (List.mem_of_getElem? (i := 191) rfl) rfl
set_option maxRecDepth 100000 in
theorem q_672 : (Jvm.Cond.code ({ cls := "ElasticKernelModel", name := "copy", desc := "(II)V" } : Jvm.MethodName) prog_9_method_4_code (4 : Nat) (Option.none : Option Jvm.ClassFile.FieldType)) ∈ lw_g := lw_t3 (List.mem_of_getElem? (i := 192) rfl) rfl
set_option maxRecDepth 100000 in
theorem q_673 : (Jvm.Cond.methodLink "ElasticKernelModel" (164 : Nat) ({ cls := "ElasticKernelModel", name := "tooMuch", desc := "(I)I" } : Jvm.MethodName)) ∈ lw_g := lw_t3 (List.mem_of_getElem? (i := 193) rfl) rfl
set_option maxRecDepth 100000 in
theorem q_675 : (Jvm.Cond.instanceMethod ({ cls := "ElasticKernelModel", name := "tooMuch", desc := "(I)I" } : Jvm.MethodName)) ∈ lw_g := lw_t3 (List.mem_of_getElem? (i := 195) rfl) rfl
set_option maxRecDepth 100000 in
theorem q_676 : (Jvm.Cond.code ({ cls := "ElasticKernelModel", name := "tooMuch", desc := "(I)I" } : Jvm.MethodName) prog_9_method_29_code (3 : Nat) (Option.some Jvm.ClassFile.FieldType.int)) ∈ lw_g := lw_t3 (List.mem_of_getElem? (i := 196) rfl) rfl
set_option maxRecDepth 100000 in
theorem q_677 : (Jvm.Cond.methodLink "ElasticKernelModel" (115 : Nat) ({ cls := "ElasticKernelModel", name := "none", desc := "()V" } : Jvm.MethodName)) ∈ lw_g := lw_t3 (List.mem_of_getElem? (i := 197) rfl) rfl
set_option maxRecDepth 100000 in
theorem q_679 : (Jvm.Cond.instanceMethod ({ cls := "ElasticKernelModel", name := "none", desc := "()V" } : Jvm.MethodName)) ∈ lw_g := lw_t3 (List.mem_of_getElem? (i := 199) rfl) rfl
set_option maxRecDepth 100000 in
theorem q_680 : (Jvm.Cond.code ({ cls := "ElasticKernelModel", name := "none", desc := "()V" } : Jvm.MethodName) prog_9_method_17_code (1 : Nat) (Option.none : Option Jvm.ClassFile.FieldType)) ∈ lw_g := lw_t3 (List.mem_of_getElem? (i := 200) rfl) rfl
set_option maxRecDepth 100000 in
theorem q_681 : (Jvm.Cond.methodLink "ElasticKernelModel" (118 : Nat) ({ cls := "ElasticKernelModel", name := "addFraction", desc := "(II)V" } : Jvm.MethodName)) ∈ lw_g := lw_t3 (List.mem_of_getElem? (i := 201) rfl) rfl
set_option maxRecDepth 100000 in
theorem q_683 : (Jvm.Cond.instanceMethod ({ cls := "ElasticKernelModel", name := "addFraction", desc := "(II)V" } : Jvm.MethodName)) ∈ lw_g := lw_t3 (List.mem_of_getElem? (i := 203) rfl) rfl
set_option maxRecDepth 100000 in
theorem q_684 : (Jvm.Cond.code ({ cls := "ElasticKernelModel", name := "addFraction", desc := "(II)V" } : Jvm.MethodName) prog_9_method_15_code (3 : Nat) (Option.none : Option Jvm.ClassFile.FieldType)) ∈ lw_g := lw_t3 (List.mem_of_getElem? (i := 204) rfl) rfl
set_option maxRecDepth 100000 in
theorem q_685 : (Jvm.Cond.methodLink "ElasticKernelModel" (102 : Nat) ({ cls := "ElasticKernelModel", name := "times", desc := "(II)V" } : Jvm.MethodName)) ∈ lw_g := lw_t3 (List.mem_of_getElem? (i := 205) rfl) rfl
set_option maxRecDepth 100000 in
theorem q_687 : (Jvm.Cond.instanceMethod ({ cls := "ElasticKernelModel", name := "times", desc := "(II)V" } : Jvm.MethodName)) ∈ lw_g := lw_t3 (List.mem_of_getElem? (i := 207) rfl) rfl
set_option maxRecDepth 100000 in
theorem q_688 : (Jvm.Cond.code ({ cls := "ElasticKernelModel", name := "times", desc := "(II)V" } : Jvm.MethodName) prog_9_method_8_code (8 : Nat) (Option.none : Option Jvm.ClassFile.FieldType)) ∈ lw_g := lw_t3 (List.mem_of_getElem? (i := 208) rfl) rfl
set_option maxRecDepth 100000 in
theorem q_689 : (Jvm.Cond.methodLink "ElasticKernelModel" (95 : Nat) ({ cls := "ElasticKernelModel", name := "add", desc := "(IIZ)V" } : Jvm.MethodName)) ∈ lw_g := lw_t3 (List.mem_of_getElem? (i := 209) rfl) rfl
set_option maxRecDepth 100000 in
theorem q_691 : (Jvm.Cond.instanceMethod ({ cls := "ElasticKernelModel", name := "add", desc := "(IIZ)V" } : Jvm.MethodName)) ∈ lw_g := lw_t3 (List.mem_of_getElem? (i := 211) rfl) rfl
set_option maxRecDepth 100000 in
theorem q_692 : (Jvm.Cond.code ({ cls := "ElasticKernelModel", name := "add", desc := "(IIZ)V" } : Jvm.MethodName) prog_9_method_7_code (7 : Nat) (Option.none : Option Jvm.ClassFile.FieldType)) ∈ lw_g := lw_t3 (List.mem_of_getElem? (i := 212) rfl) rfl
set_option maxRecDepth 100000 in
theorem q_693 : (Jvm.Cond.constant "ElasticKernelModel" (75 : Nat) (16777215 : Int32)) ∈ lw_g := lw_t3 (List.mem_of_getElem? (i := 213) rfl) rfl
set_option maxRecDepth 100000 in
theorem q_694 : (Jvm.Cond.methodLink "ElasticKernelModel" (131 : Nat) ({ cls := "ElasticKernelModel", name := "isAbove", desc := "(I)Z" } : Jvm.MethodName)) ∈ lw_g := lw_t3 (List.mem_of_getElem? (i := 214) rfl) rfl
set_option maxRecDepth 100000 in
theorem q_696 : (Jvm.Cond.instanceMethod ({ cls := "ElasticKernelModel", name := "isAbove", desc := "(I)Z" } : Jvm.MethodName)) ∈ lw_g := lw_t3 (List.mem_of_getElem? (i := 216) rfl) rfl
set_option maxRecDepth 100000 in
theorem q_697 : (Jvm.Cond.code ({ cls := "ElasticKernelModel", name := "isAbove", desc := "(I)Z" } : Jvm.MethodName) prog_9_method_16_code (2 : Nat) (Option.some Jvm.ClassFile.FieldType.boolean)) ∈ lw_g := lw_t3 (List.mem_of_getElem? (i := 217) rfl) rfl
set_option maxRecDepth 100000 in
theorem q_698 : (Jvm.Cond.methodLink "ElasticKernelModel" (91 : Nat) ({ cls := "ElasticKernelModel", name := "compare", desc := "(II)I" } : Jvm.MethodName)) ∈ lw_g := lw_t3 (List.mem_of_getElem? (i := 218) rfl) rfl
set_option maxRecDepth 100000 in
theorem q_700 : (Jvm.Cond.instanceMethod ({ cls := "ElasticKernelModel", name := "compare", desc := "(II)I" } : Jvm.MethodName)) ∈ lw_g := lw_t3 (List.mem_of_getElem? (i := 220) rfl) rfl
set_option maxRecDepth 100000 in
theorem q_701 : (Jvm.Cond.code ({ cls := "ElasticKernelModel", name := "compare", desc := "(II)I" } : Jvm.MethodName) prog_9_method_5_code (5 : Nat) (Option.some Jvm.ClassFile.FieldType.int)) ∈ lw_g := lw_t3 (List.mem_of_getElem? (i := 221) rfl) rfl
set_option maxRecDepth 100000 in
theorem q_702 : (Jvm.Cond.methodLink "ElasticKernelModel" (170 : Nat) ({ cls := "ElasticKernelModel", name := "remove", desc := "(I)V" } : Jvm.MethodName)) ∈ lw_g := lw_t3 (List.mem_of_getElem? (i := 222) rfl) rfl
set_option maxRecDepth 100000 in
theorem q_704 : (Jvm.Cond.instanceMethod ({ cls := "ElasticKernelModel", name := "remove", desc := "(I)V" } : Jvm.MethodName)) ∈ lw_g := lw_t3 (List.mem_of_getElem? (i := 224) rfl) rfl
set_option maxRecDepth 100000 in
theorem q_705 : (Jvm.Cond.code ({ cls := "ElasticKernelModel", name := "remove", desc := "(I)V" } : Jvm.MethodName) prog_9_method_28_code (3 : Nat) (Option.none : Option Jvm.ClassFile.FieldType)) ∈ lw_g := lw_t3 (List.mem_of_getElem? (i := 225) rfl) rfl
set_option maxRecDepth 100000 in
theorem q_706 : (Jvm.Cond.methodLink "ElasticKernelModel" (173 : Nat) ({ cls := "ElasticKernelModel", name := "solve", desc := "()V" } : Jvm.MethodName)) ∈ lw_g := lw_t3 (List.mem_of_getElem? (i := 226) rfl) rfl
set_option maxRecDepth 100000 in
theorem q_708 : (Jvm.Cond.instanceMethod ({ cls := "ElasticKernelModel", name := "solve", desc := "()V" } : Jvm.MethodName)) ∈ lw_g := lw_t3 (List.mem_of_getElem? (i := 228) rfl) rfl
set_option maxRecDepth 100000 in
theorem q_709 : (Jvm.Cond.code ({ cls := "ElasticKernelModel", name := "solve", desc := "()V" } : Jvm.MethodName) prog_9_method_22_code (5 : Nat) (Option.none : Option Jvm.ClassFile.FieldType)) ∈ lw_g := lw_t3 (List.mem_of_getElem? (i := 229) rfl) rfl
set_option maxRecDepth 100000 in
theorem q_710 : (Jvm.Cond.methodLink "ElasticKernelModel" (108 : Nat) ({ cls := "ElasticKernelModel", name := "counts", desc := "(I)Z" } : Jvm.MethodName)) ∈ lw_g := lw_t3 (List.mem_of_getElem? (i := 230) rfl) rfl
set_option maxRecDepth 100000 in
theorem q_712 : (Jvm.Cond.instanceMethod ({ cls := "ElasticKernelModel", name := "counts", desc := "(I)Z" } : Jvm.MethodName)) ∈ lw_g := lw_t3 (List.mem_of_getElem? (i := 232) rfl) rfl
set_option maxRecDepth 100000 in
theorem q_713 : (Jvm.Cond.code ({ cls := "ElasticKernelModel", name := "counts", desc := "(I)Z" } : Jvm.MethodName) prog_9_method_14_code (2 : Nat) (Option.some Jvm.ClassFile.FieldType.boolean)) ∈ lw_g := lw_t3 (List.mem_of_getElem? (i := 233) rfl) rfl
set_option maxRecDepth 100000 in
theorem q_714 : (Jvm.Cond.constantLong "ElasticKernelModel" (134 : Nat) (1000 : Int64)) ∈ lw_g := lw_t3 (List.mem_of_getElem? (i := 234) rfl) rfl
set_option maxRecDepth 100000 in
theorem q_715 : (Jvm.Cond.methodLink "ElasticKernelModel" (136 : Nat) ({ cls := "ElasticKernelModel", name := "rankOf", desc := "(I)I" } : Jvm.MethodName)) ∈ lw_g := lw_t3 (List.mem_of_getElem? (i := 235) rfl) rfl
set_option maxRecDepth 100000 in
theorem q_717 : (Jvm.Cond.instanceMethod ({ cls := "ElasticKernelModel", name := "rankOf", desc := "(I)I" } : Jvm.MethodName)) ∈ lw_g := lw_t3 (List.mem_of_getElem? (i := 237) rfl) rfl
set_option maxRecDepth 100000 in
theorem q_718 : (Jvm.Cond.code ({ cls := "ElasticKernelModel", name := "rankOf", desc := "(I)I" } : Jvm.MethodName) prog_9_method_19_code (4 : Nat) (Option.some Jvm.ClassFile.FieldType.int)) ∈ lw_g := lw_t3 (List.mem_of_getElem? (i := 238) rfl) rfl
set_option maxRecDepth 100000 in
theorem q_719 : (Jvm.Cond.methodLink "ElasticKernelModel" (111 : Nat) ({ cls := "ElasticKernelModel", name := "isSofter", desc := "(II)Z" } : Jvm.MethodName)) ∈ lw_g := lw_t3 (List.mem_of_getElem? (i := 239) rfl) rfl
set_option maxRecDepth 100000 in
theorem q_721 : (Jvm.Cond.instanceMethod ({ cls := "ElasticKernelModel", name := "isSofter", desc := "(II)Z" } : Jvm.MethodName)) ∈ lw_g := lw_t4 (List.mem_of_getElem? (i := 1) rfl) rfl
set_option maxRecDepth 100000 in
theorem q_722 : (Jvm.Cond.code ({ cls := "ElasticKernelModel", name := "isSofter", desc := "(II)Z" } : Jvm.MethodName) prog_9_method_18_code (8 : Nat) (Option.some Jvm.ClassFile.FieldType.boolean)) ∈ lw_g := lw_t4 (List.mem_of_getElem? (i := 2) rfl) rfl
set_option maxRecDepth 100000 in
theorem q_723 : (Jvm.Cond.methodLink "ElasticKernelModel" (140 : Nat) ({ cls := "ElasticKernelModel", name := "tryLeast", desc := "(I)Z" } : Jvm.MethodName)) ∈ lw_g := lw_t4 (List.mem_of_getElem? (i := 3) rfl) rfl
set_option maxRecDepth 100000 in
theorem q_725 : (Jvm.Cond.instanceMethod ({ cls := "ElasticKernelModel", name := "tryLeast", desc := "(I)Z" } : Jvm.MethodName)) ∈ lw_g := lw_t4 (List.mem_of_getElem? (i := 5) rfl) rfl
set_option maxRecDepth 100000 in
theorem q_726 : (Jvm.Cond.code ({ cls := "ElasticKernelModel", name := "tryLeast", desc := "(I)Z" } : Jvm.MethodName) prog_9_method_20_code (5 : Nat) (Option.some Jvm.ClassFile.FieldType.boolean)) ∈ lw_g := lw_t4 (List.mem_of_getElem? (i := 6) rfl) rfl
set_option maxRecDepth 100000 in
theorem q_727 : (Jvm.Cond.methodLink "ElasticKernelModel" (121 : Nat) ({ cls := "ElasticKernelModel", name := "product", desc := "(III)V" } : Jvm.MethodName)) ∈ lw_g := lw_t4 (List.mem_of_getElem? (i := 7) rfl) rfl
set_option maxRecDepth 100000 in
theorem q_729 : (Jvm.Cond.instanceMethod ({ cls := "ElasticKernelModel", name := "product", desc := "(III)V" } : Jvm.MethodName)) ∈ lw_g := lw_t4 (List.mem_of_getElem? (i := 9) rfl) rfl
set_option maxRecDepth 100000 in
theorem q_730 : (Jvm.Cond.code ({ cls := "ElasticKernelModel", name := "product", desc := "(III)V" } : Jvm.MethodName) prog_9_method_9_code (10 : Nat) (Option.none : Option Jvm.ClassFile.FieldType)) ∈ lw_g := lw_t4 (List.mem_of_getElem? (i := 10) rfl) rfl
set_option maxRecDepth 100000 in
theorem q_731 : (Jvm.Cond.methodLink "ElasticKernelModel" (125 : Nat) ({ cls := "ElasticKernelModel", name := "fits", desc := "(I)Z" } : Jvm.MethodName)) ∈ lw_g := lw_t4 (List.mem_of_getElem? (i := 11) rfl) rfl
set_option maxRecDepth 100000 in
theorem q_733 : (Jvm.Cond.instanceMethod ({ cls := "ElasticKernelModel", name := "fits", desc := "(I)Z" } : Jvm.MethodName)) ∈ lw_g := lw_t4 (List.mem_of_getElem? (i := 13) rfl) rfl
set_option maxRecDepth 100000 in
theorem q_734 : (Jvm.Cond.code ({ cls := "ElasticKernelModel", name := "fits", desc := "(I)Z" } : Jvm.MethodName) prog_9_method_21_code (4 : Nat) (Option.some Jvm.ClassFile.FieldType.boolean)) ∈ lw_g := lw_t4 (List.mem_of_getElem? (i := 14) rfl) rfl
set_option maxRecDepth 100000 in
theorem q_735 : (Jvm.Cond.methodLink "ElasticKernelModel" (143 : Nat) ({ cls := "ElasticKernelModel", name := "press", desc := "(II)V" } : Jvm.MethodName)) ∈ lw_g := lw_t4 (List.mem_of_getElem? (i := 15) rfl) rfl
set_option maxRecDepth 100000 in
theorem q_737 : (Jvm.Cond.instanceMethod ({ cls := "ElasticKernelModel", name := "press", desc := "(II)V" } : Jvm.MethodName)) ∈ lw_g := lw_t4 (List.mem_of_getElem? (i := 17) rfl) rfl
set_option maxRecDepth 100000 in
theorem q_738 : (Jvm.Cond.code ({ cls := "ElasticKernelModel", name := "press", desc := "(II)V" } : Jvm.MethodName) prog_9_method_23_code (3 : Nat) (Option.none : Option Jvm.ClassFile.FieldType)) ∈ lw_g := lw_t4 (List.mem_of_getElem? (i := 18) rfl) rfl
set_option maxRecDepth 100000 in
theorem q_739 : (Jvm.Cond.methodLink "ElasticKernelModel" (146 : Nat) ({ cls := "ElasticKernelModel", name := "settle", desc := "(I)V" } : Jvm.MethodName)) ∈ lw_g := lw_t4 (List.mem_of_getElem? (i := 19) rfl) rfl
set_option maxRecDepth 100000 in
theorem q_741 : (Jvm.Cond.instanceMethod ({ cls := "ElasticKernelModel", name := "settle", desc := "(I)V" } : Jvm.MethodName)) ∈ lw_g := lw_t4 (List.mem_of_getElem? (i := 21) rfl) rfl
set_option maxRecDepth 100000 in
theorem q_742 : (Jvm.Cond.code ({ cls := "ElasticKernelModel", name := "settle", desc := "(I)V" } : Jvm.MethodName) prog_9_method_24_code (5 : Nat) (Option.none : Option Jvm.ClassFile.FieldType)) ∈ lw_g := lw_t4 (List.mem_of_getElem? (i := 22) rfl) rfl
set_option maxRecDepth 100000 in
theorem q_743 : (Jvm.Cond.methodLink "ElasticKernelModel" (149 : Nat) ({ cls := "ElasticKernelModel", name := "findInstant", desc := "()V" } : Jvm.MethodName)) ∈ lw_g := lw_t4 (List.mem_of_getElem? (i := 23) rfl) rfl
set_option maxRecDepth 100000 in
theorem q_745 : (Jvm.Cond.instanceMethod ({ cls := "ElasticKernelModel", name := "findInstant", desc := "()V" } : Jvm.MethodName)) ∈ lw_g := lw_t4 (List.mem_of_getElem? (i := 25) rfl) rfl
set_option maxRecDepth 100000 in
theorem q_746 : (Jvm.Cond.code ({ cls := "ElasticKernelModel", name := "findInstant", desc := "()V" } : Jvm.MethodName) prog_9_method_25_code (3 : Nat) (Option.none : Option Jvm.ClassFile.FieldType)) ∈ lw_g := lw_t4 (List.mem_of_getElem? (i := 26) rfl) rfl
set_option maxRecDepth 100000 in
theorem q_747 : (Jvm.Cond.methodLink "ElasticKernelLaw" (28 : Nat) ({ cls := "ElasticKernelModel", name := "leave", desc := "(I)Z" } : Jvm.MethodName)) ∈ lw_g := lw_t4 (List.mem_of_getElem? (i := 27) rfl) rfl
set_option maxRecDepth 100000 in
theorem q_748 : (Jvm.Cond.instanceMethod ({ cls := "ElasticKernelModel", name := "leave", desc := "(I)Z" } : Jvm.MethodName)) ∈ lw_g := lw_t4 (List.mem_of_getElem? (i := 28) rfl) rfl
set_option maxRecDepth 100000 in
theorem q_749 : (Jvm.Cond.selects "ElasticKernelModel" ({ cls := "ElasticKernelModel", name := "leave", desc := "(I)Z" } : Jvm.MethodName) ({ cls := "ElasticKernelModel", name := "leave", desc := "(I)Z" } : Jvm.MethodName)) ∈ lw_g := lw_t4 (List.mem_of_getElem? (i := 29) rfl) rfl
set_option maxRecDepth 100000 in
theorem q_750 : (Jvm.Cond.code ({ cls := "ElasticKernelModel", name := "leave", desc := "(I)Z" } : Jvm.MethodName) prog_9_method_31_code (3 : Nat) (Option.some Jvm.ClassFile.FieldType.boolean)) ∈ lw_g := lw_t4 (List.mem_of_getElem? (i := 30) rfl) rfl
set_option maxRecDepth 100000 in
theorem q_751 : (Jvm.Cond.methodLink "ElasticKernelLaw" (32 : Nat) ({ cls := "ElasticKernelModel", name := "load", desc := "(I)Z" } : Jvm.MethodName)) ∈ lw_g := lw_t4 (List.mem_of_getElem? (i := 31) rfl) rfl
set_option maxRecDepth 100000 in
theorem q_752 : (Jvm.Cond.instanceMethod ({ cls := "ElasticKernelModel", name := "load", desc := "(I)Z" } : Jvm.MethodName)) ∈ lw_g := lw_t4 (List.mem_of_getElem? (i := 32) rfl) rfl
set_option maxRecDepth 100000 in
theorem q_753 : (Jvm.Cond.selects "ElasticKernelModel" ({ cls := "ElasticKernelModel", name := "load", desc := "(I)Z" } : Jvm.MethodName) ({ cls := "ElasticKernelModel", name := "load", desc := "(I)Z" } : Jvm.MethodName)) ∈ lw_g := lw_t4 (List.mem_of_getElem? (i := 33) rfl) rfl
set_option maxRecDepth 100000 in
theorem q_754 : (Jvm.Cond.code ({ cls := "ElasticKernelModel", name := "load", desc := "(I)Z" } : Jvm.MethodName) prog_9_method_32_code (3 : Nat) (Option.some Jvm.ClassFile.FieldType.boolean)) ∈ lw_g := lw_t4 (List.mem_of_getElem? (i := 34) rfl) rfl
set_option maxRecDepth 100000 in
theorem q_755 : (Jvm.Cond.methodLink "ElasticKernelLaw" (37 : Nat) ({ cls := "ElasticKernelModel", name := "use", desc := "(II)Z" } : Jvm.MethodName)) ∈ lw_g := lw_t4 (List.mem_of_getElem? (i := 35) rfl) rfl
set_option maxRecDepth 100000 in
theorem q_756 : (Jvm.Cond.instanceMethod ({ cls := "ElasticKernelModel", name := "use", desc := "(II)Z" } : Jvm.MethodName)) ∈ lw_g := lw_t4 (List.mem_of_getElem? (i := 36) rfl) rfl
set_option maxRecDepth 100000 in
theorem q_757 : (Jvm.Cond.selects "ElasticKernelModel" ({ cls := "ElasticKernelModel", name := "use", desc := "(II)Z" } : Jvm.MethodName) ({ cls := "ElasticKernelModel", name := "use", desc := "(II)Z" } : Jvm.MethodName)) ∈ lw_g := lw_t4 (List.mem_of_getElem? (i := 37) rfl) rfl
set_option maxRecDepth 100000 in
theorem q_758 : (Jvm.Cond.code ({ cls := "ElasticKernelModel", name := "use", desc := "(II)Z" } : Jvm.MethodName) prog_9_method_33_code (4 : Nat) (Option.some Jvm.ClassFile.FieldType.boolean)) ∈ lw_g := lw_t4 (List.mem_of_getElem? (i := 38) rfl) rfl
set_option maxRecDepth 100000 in
theorem q_759 : (Jvm.Cond.methodLink "ElasticKernelLaw" (43 : Nat) ({ cls := "ElasticKernelModel", name := "tick", desc := "(I)I" } : Jvm.MethodName)) ∈ lw_g := lw_t4 (List.mem_of_getElem? (i := 39) rfl) rfl
set_option maxRecDepth 100000 in
theorem q_760 : (Jvm.Cond.instanceMethod ({ cls := "ElasticKernelModel", name := "tick", desc := "(I)I" } : Jvm.MethodName)) ∈ lw_g := lw_t4 (List.mem_of_getElem? (i := 40) rfl) rfl
set_option maxRecDepth 100000 in
theorem q_761 : (Jvm.Cond.selects "ElasticKernelModel" ({ cls := "ElasticKernelModel", name := "tick", desc := "(I)I" } : Jvm.MethodName) ({ cls := "ElasticKernelModel", name := "tick", desc := "(I)I" } : Jvm.MethodName)) ∈ lw_g := lw_t4 (List.mem_of_getElem? (i := 41) rfl) rfl
set_option maxRecDepth 100000 in
theorem q_762 : (Jvm.Cond.code ({ cls := "ElasticKernelModel", name := "tick", desc := "(I)I" } : Jvm.MethodName) prog_9_method_36_code (4 : Nat) (Option.some Jvm.ClassFile.FieldType.int)) ∈ lw_g := lw_t4 (List.mem_of_getElem? (i := 42) rfl) rfl
set_option maxRecDepth 100000 in
theorem q_763 : (Jvm.Cond.methodLink "ElasticKernelModel" (183 : Nat) ({ cls := "ElasticKernelModel", name := "step", desc := "()I" } : Jvm.MethodName)) ∈ lw_g := lw_t4 (List.mem_of_getElem? (i := 43) rfl) rfl
set_option maxRecDepth 100000 in
theorem q_765 : (Jvm.Cond.instanceMethod ({ cls := "ElasticKernelModel", name := "step", desc := "()I" } : Jvm.MethodName)) ∈ lw_g := lw_t4 (List.mem_of_getElem? (i := 45) rfl) rfl
set_option maxRecDepth 100000 in
theorem q_766 : (Jvm.Cond.code ({ cls := "ElasticKernelModel", name := "step", desc := "()I" } : Jvm.MethodName) prog_9_method_35_code (3 : Nat) (Option.some Jvm.ClassFile.FieldType.int)) ∈ lw_g := lw_t4 (List.mem_of_getElem? (i := 46) rfl) rfl
set_option maxRecDepth 100000 in
theorem q_767 : (Jvm.Cond.methodLink "ElasticKernelModel" (179 : Nat) ({ cls := "ElasticKernelModel", name := "release", desc := "(IZ)V" } : Jvm.MethodName)) ∈ lw_g := lw_t4 (List.mem_of_getElem? (i := 47) rfl) rfl
set_option maxRecDepth 100000 in
theorem q_769 : (Jvm.Cond.instanceMethod ({ cls := "ElasticKernelModel", name := "release", desc := "(IZ)V" } : Jvm.MethodName)) ∈ lw_g := lw_t4 (List.mem_of_getElem? (i := 49) rfl) rfl
set_option maxRecDepth 100000 in
theorem q_770 : (Jvm.Cond.code ({ cls := "ElasticKernelModel", name := "release", desc := "(IZ)V" } : Jvm.MethodName) prog_9_method_34_code (3 : Nat) (Option.none : Option Jvm.ClassFile.FieldType)) ∈ lw_g := lw_t4 (List.mem_of_getElem? (i := 50) rfl) rfl
set_option maxRecDepth 100000 in
theorem q_771 : (Jvm.Cond.methodLink "ElasticKernelLaw" (52 : Nat) ({ cls := "ElasticKernelModel", name := "task", desc := "(II)I" } : Jvm.MethodName)) ∈ lw_g := lw_t4 (List.mem_of_getElem? (i := 51) rfl) rfl
set_option maxRecDepth 100000 in
theorem q_772 : (Jvm.Cond.instanceMethod ({ cls := "ElasticKernelModel", name := "task", desc := "(II)I" } : Jvm.MethodName)) ∈ lw_g := lw_t4 (List.mem_of_getElem? (i := 52) rfl) rfl
set_option maxRecDepth 100000 in
theorem q_773 : (Jvm.Cond.selects "ElasticKernelModel" ({ cls := "ElasticKernelModel", name := "task", desc := "(II)I" } : Jvm.MethodName) ({ cls := "ElasticKernelModel", name := "task", desc := "(II)I" } : Jvm.MethodName)) ∈ lw_g := lw_t4 (List.mem_of_getElem? (i := 53) rfl) rfl
set_option maxRecDepth 100000 in
theorem q_774 : (Jvm.Cond.code ({ cls := "ElasticKernelModel", name := "task", desc := "(II)I" } : Jvm.MethodName) prog_9_method_37_code (4 : Nat) (Option.some Jvm.ClassFile.FieldType.int)) ∈ lw_g := lw_t4 (List.mem_of_getElem? (i := 54) rfl) rfl
set_option maxRecDepth 100000 in
theorem q_775 : (Jvm.Cond.methodLink "ElasticKernelLaw" (57 : Nat) ({ cls := "ElasticKernelModel", name := "rate", desc := "(III)I" } : Jvm.MethodName)) ∈ lw_g := lw_t4 (List.mem_of_getElem? (i := 55) rfl) rfl
set_option maxRecDepth 100000 in
theorem q_776 : (Jvm.Cond.instanceMethod ({ cls := "ElasticKernelModel", name := "rate", desc := "(III)I" } : Jvm.MethodName)) ∈ lw_g := lw_t4 (List.mem_of_getElem? (i := 56) rfl) rfl
set_option maxRecDepth 100000 in
theorem q_777 : (Jvm.Cond.selects "ElasticKernelModel" ({ cls := "ElasticKernelModel", name := "rate", desc := "(III)I" } : Jvm.MethodName) ({ cls := "ElasticKernelModel", name := "rate", desc := "(III)I" } : Jvm.MethodName)) ∈ lw_g := lw_t4 (List.mem_of_getElem? (i := 57) rfl) rfl
set_option maxRecDepth 100000 in
theorem q_778 : (Jvm.Cond.code ({ cls := "ElasticKernelModel", name := "rate", desc := "(III)I" } : Jvm.MethodName) prog_9_method_39_code (5 : Nat) (Option.some Jvm.ClassFile.FieldType.int)) ∈ lw_g := lw_t4 (List.mem_of_getElem? (i := 58) rfl) rfl
set_option maxRecDepth 100000 in
theorem q_779 : (Jvm.Cond.methodLink "ElasticKernelModel" (190 : Nat) ({ cls := "ElasticKernelModel", name := "wordOf", desc := "(III)I" } : Jvm.MethodName)) ∈ lw_g := lw_t4 (List.mem_of_getElem? (i := 59) rfl) rfl
set_option maxRecDepth 100000 in
theorem q_781 : (Jvm.Cond.instanceMethod ({ cls := "ElasticKernelModel", name := "wordOf", desc := "(III)I" } : Jvm.MethodName)) ∈ lw_g := lw_t4 (List.mem_of_getElem? (i := 61) rfl) rfl
set_option maxRecDepth 100000 in
theorem q_782 : (Jvm.Cond.code ({ cls := "ElasticKernelModel", name := "wordOf", desc := "(III)I" } : Jvm.MethodName) prog_9_method_38_code (4 : Nat) (Option.some Jvm.ClassFile.FieldType.int)) ∈ lw_g := lw_t4 (List.mem_of_getElem? (i := 62) rfl) rfl
set_option maxRecDepth 100000 in
theorem q_783 : (Jvm.Cond.methodLink "ElasticKernelModel" (187 : Nat) ({ cls := "ElasticKernelModel", name := "reduce", desc := "(II)V" } : Jvm.MethodName)) ∈ lw_g := lw_t4 (List.mem_of_getElem? (i := 63) rfl) rfl
set_option maxRecDepth 100000 in
theorem q_785 : (Jvm.Cond.instanceMethod ({ cls := "ElasticKernelModel", name := "reduce", desc := "(II)V" } : Jvm.MethodName)) ∈ lw_g := lw_t4 (List.mem_of_getElem? (i := 65) rfl) rfl
set_option maxRecDepth 100000 in
theorem q_786 : (Jvm.Cond.code ({ cls := "ElasticKernelModel", name := "reduce", desc := "(II)V" } : Jvm.MethodName) prog_9_method_12_code (3 : Nat) (Option.none : Option Jvm.ClassFile.FieldType)) ∈ lw_g := lw_t4 (List.mem_of_getElem? (i := 66) rfl) rfl
set_option maxRecDepth 100000 in
theorem q_787 : (Jvm.Cond.methodLink "ElasticKernelModel" (76 : Nat) ({ cls := "ElasticKernelModel", name := "isZero", desc := "(I)Z" } : Jvm.MethodName)) ∈ lw_g := lw_t4 (List.mem_of_getElem? (i := 67) rfl) rfl
set_option maxRecDepth 100000 in
theorem q_789 : (Jvm.Cond.instanceMethod ({ cls := "ElasticKernelModel", name := "isZero", desc := "(I)Z" } : Jvm.MethodName)) ∈ lw_g := lw_t4 (List.mem_of_getElem? (i := 69) rfl) rfl
set_option maxRecDepth 100000 in
theorem q_790 : (Jvm.Cond.code ({ cls := "ElasticKernelModel", name := "isZero", desc := "(I)Z" } : Jvm.MethodName) prog_9_method_6_code (3 : Nat) (Option.some Jvm.ClassFile.FieldType.boolean)) ∈ lw_g := lw_t4 (List.mem_of_getElem? (i := 70) rfl) rfl
set_option maxRecDepth 100000 in
theorem q_791 : (Jvm.Cond.methodLink "ElasticKernelModel" (80 : Nat) ({ cls := "ElasticKernelModel", name := "isEven", desc := "(I)Z" } : Jvm.MethodName)) ∈ lw_g := lw_t4 (List.mem_of_getElem? (i := 71) rfl) rfl
set_option maxRecDepth 100000 in
theorem q_793 : (Jvm.Cond.instanceMethod ({ cls := "ElasticKernelModel", name := "isEven", desc := "(I)Z" } : Jvm.MethodName)) ∈ lw_g := lw_t4 (List.mem_of_getElem? (i := 73) rfl) rfl
set_option maxRecDepth 100000 in
theorem q_794 : (Jvm.Cond.code ({ cls := "ElasticKernelModel", name := "isEven", desc := "(I)Z" } : Jvm.MethodName) prog_9_method_11_code (2 : Nat) (Option.some Jvm.ClassFile.FieldType.boolean)) ∈ lw_g := lw_t4 (List.mem_of_getElem? (i := 74) rfl) rfl
set_option maxRecDepth 100000 in
theorem q_795 : (Jvm.Cond.methodLink "ElasticKernelModel" (83 : Nat) ({ cls := "ElasticKernelModel", name := "halve", desc := "(I)V" } : Jvm.MethodName)) ∈ lw_g := lw_t4 (List.mem_of_getElem? (i := 75) rfl) rfl
set_option maxRecDepth 100000 in
theorem q_797 : (Jvm.Cond.instanceMethod ({ cls := "ElasticKernelModel", name := "halve", desc := "(I)V" } : Jvm.MethodName)) ∈ lw_g := lw_t4 (List.mem_of_getElem? (i := 77) rfl) rfl
set_option maxRecDepth 100000 in
theorem q_798 : (Jvm.Cond.code ({ cls := "ElasticKernelModel", name := "halve", desc := "(I)V" } : Jvm.MethodName) prog_9_method_10_code (4 : Nat) (Option.none : Option Jvm.ClassFile.FieldType)) ∈ lw_g := lw_t4 (List.mem_of_getElem? (i := 78) rfl) rfl
set_option maxRecDepth 100000 in
theorem q_799 : (Jvm.Cond.methodLink "ElasticKernelModel" (99 : Nat) ({ cls := "ElasticKernelModel", name := "quotient", desc := "(I)V" } : Jvm.MethodName)) ∈ lw_g := lw_t4 (List.mem_of_getElem? (i := 79) rfl) rfl
set_option maxRecDepth 100000 in
theorem q_801 : (Jvm.Cond.instanceMethod ({ cls := "ElasticKernelModel", name := "quotient", desc := "(I)V" } : Jvm.MethodName)) ∈ lw_g := lw_t4 (List.mem_of_getElem? (i := 81) rfl) rfl
set_option maxRecDepth 100000 in
theorem q_802 : (Jvm.Cond.code ({ cls := "ElasticKernelModel", name := "quotient", desc := "(I)V" } : Jvm.MethodName) prog_9_method_13_code (3 : Nat) (Option.none : Option Jvm.ClassFile.FieldType)) ∈ lw_g := lw_t4 (List.mem_of_getElem? (i := 82) rfl) rfl
set_option maxRecDepth 100000 in
theorem q_803 : (Jvm.Cond.methodLink "ElasticKernelLaw" (61 : Nat) ({ cls := "ElasticKernelModel", name := "total", desc := "(II)I" } : Jvm.MethodName)) ∈ lw_g := lw_t4 (List.mem_of_getElem? (i := 83) rfl) rfl
set_option maxRecDepth 100000 in
theorem q_804 : (Jvm.Cond.instanceMethod ({ cls := "ElasticKernelModel", name := "total", desc := "(II)I" } : Jvm.MethodName)) ∈ lw_g := lw_t4 (List.mem_of_getElem? (i := 84) rfl) rfl
set_option maxRecDepth 100000 in
theorem q_805 : (Jvm.Cond.selects "ElasticKernelModel" ({ cls := "ElasticKernelModel", name := "total", desc := "(II)I" } : Jvm.MethodName) ({ cls := "ElasticKernelModel", name := "total", desc := "(II)I" } : Jvm.MethodName)) ∈ lw_g := lw_t4 (List.mem_of_getElem? (i := 85) rfl) rfl
set_option maxRecDepth 100000 in
theorem q_806 : (Jvm.Cond.code ({ cls := "ElasticKernelModel", name := "total", desc := "(II)I" } : Jvm.MethodName) prog_9_method_40_code (3 : Nat) (Option.some Jvm.ClassFile.FieldType.int)) ∈ lw_g := lw_t4 (List.mem_of_getElem? (i := 86) rfl) rfl
set_option maxRecDepth 100000 in
theorem q_807 : (Jvm.Cond.methodLink "ElasticKernelLaw" (65 : Nat) ({ cls := "ElasticKernelModel", name := "state", desc := "(I)I" } : Jvm.MethodName)) ∈ lw_g := lw_t4 (List.mem_of_getElem? (i := 87) rfl) rfl
set_option maxRecDepth 100000 in
theorem q_808 : (Jvm.Cond.instanceMethod ({ cls := "ElasticKernelModel", name := "state", desc := "(I)I" } : Jvm.MethodName)) ∈ lw_g := lw_t4 (List.mem_of_getElem? (i := 88) rfl) rfl
set_option maxRecDepth 100000 in
theorem q_809 : (Jvm.Cond.selects "ElasticKernelModel" ({ cls := "ElasticKernelModel", name := "state", desc := "(I)I" } : Jvm.MethodName) ({ cls := "ElasticKernelModel", name := "state", desc := "(I)I" } : Jvm.MethodName)) ∈ lw_g := lw_t4 (List.mem_of_getElem? (i := 89) rfl) rfl
set_option maxRecDepth 100000 in
theorem q_810 : (Jvm.Cond.code ({ cls := "ElasticKernelModel", name := "state", desc := "(I)I" } : Jvm.MethodName) prog_9_method_42_code (2 : Nat) (Option.some Jvm.ClassFile.FieldType.int)) ∈ lw_g := lw_t4 (List.mem_of_getElem? (i := 90) rfl) rfl
set_option maxRecDepth 100000 in
theorem q_811 : (Jvm.Cond.methodLink "ElasticKernelModel" (194 : Nat) ({ cls := "ElasticKernelModel", name := "unused", desc := "()I" } : Jvm.MethodName)) ∈ lw_g := lw_t4 (List.mem_of_getElem? (i := 91) rfl) rfl
set_option maxRecDepth 100000 in
theorem q_813 : (Jvm.Cond.instanceMethod ({ cls := "ElasticKernelModel", name := "unused", desc := "()I" } : Jvm.MethodName)) ∈ lw_g := lw_t4 (List.mem_of_getElem? (i := 93) rfl) rfl
set_option maxRecDepth 100000 in
theorem q_814 : (Jvm.Cond.code ({ cls := "ElasticKernelModel", name := "unused", desc := "()I" } : Jvm.MethodName) prog_9_method_41_code (2 : Nat) (Option.some Jvm.ClassFile.FieldType.int)) ∈ lw_g := lw_t4 (List.mem_of_getElem? (i := 94) rfl) rfl
set_option maxRecDepth 100000 in
theorem q_815 : (Jvm.Cond.arrayClass Jvm.ClassFile.FieldType.long) ∈ lw_g := lw_t4 (List.mem_of_getElem? (i := 95) rfl) rfl
set_option maxRecDepth 100000 in
theorem p_0 : Cond.selects "ElasticKernel" ⟨"ElasticKernel", "isRefused", "(I)Z"⟩ ⟨"ElasticKernel", "isRefused", "(I)Z"⟩ ∈ lw_g := lw_gp (List.mem_of_getElem? (i := 0) rfl) rfl
set_option maxRecDepth 100000 in
theorem p_1 : Cond.selects "ElasticKernel" ⟨"ElasticKernel", "solve", "()V"⟩ ⟨"ElasticKernel", "solve", "()V"⟩ ∈ lw_g := lw_gp (List.mem_of_getElem? (i := 1) rfl) rfl
set_option maxRecDepth 100000 in
theorem p_2 : Cond.selects "ElasticKernel$Springs" ⟨"ElasticKernel$Springs", "unpin", "(LElasticKernel$Roster;)V"⟩ ⟨"ElasticKernel$Springs", "unpin", "(LElasticKernel$Roster;)V"⟩ ∈ lw_g := lw_gp (List.mem_of_getElem? (i := 2) rfl) rfl
set_option maxRecDepth 100000 in
theorem p_3 : Cond.selects "ElasticKernel$Springs" ⟨"ElasticKernel$Springs", "addUp", "(LElasticKernel$Roster;)V"⟩ ⟨"ElasticKernel$Springs", "addUp", "(LElasticKernel$Roster;)V"⟩ ∈ lw_g := lw_gp (List.mem_of_getElem? (i := 3) rfl) rfl
set_option maxRecDepth 100000 in
theorem p_4 : Cond.selects "ElasticKernel$Springs" ⟨"ElasticKernel$Springs", "addUpSoftness", "(LElasticKernel$Roster;)V"⟩ ⟨"ElasticKernel$Springs", "addUpSoftness", "(LElasticKernel$Roster;)V"⟩ ∈ lw_g := lw_gp (List.mem_of_getElem? (i := 4) rfl) rfl
set_option maxRecDepth 100000 in
theorem p_5 : Cond.selects "ElasticKernel$Springs" ⟨"ElasticKernel$Springs", "pinPressed", "(LElasticKernel$Roster;)Z"⟩ ⟨"ElasticKernel$Springs", "pinPressed", "(LElasticKernel$Roster;)Z"⟩ ∈ lw_g := lw_gp (List.mem_of_getElem? (i := 5) rfl) rfl
set_option maxRecDepth 100000 in
theorem p_6 : Cond.selects "ElasticKernel$Springs" ⟨"ElasticKernel$Springs", "isTooMuchFor", "(LElasticKernel$Task;)Z"⟩ ⟨"ElasticKernel$Springs", "isTooMuchFor", "(LElasticKernel$Task;)Z"⟩ ∈ lw_g := lw_gp (List.mem_of_getElem? (i := 6) rfl) rfl
set_option maxRecDepth 100000 in
theorem p_7 : Cond.selects "ElasticKernel$Divider" ⟨"ElasticKernel$Divider", "divide", "(LElasticKernel$Natural;LElasticKernel$Natural;)V"⟩ ⟨"ElasticKernel$Divider", "divide", "(LElasticKernel$Natural;LElasticKernel$Natural;)V"⟩ ∈ lw_g := lw_gp (List.mem_of_getElem? (i := 7) rfl) rfl
set_option maxRecDepth 100000 in
theorem p_8 : Cond.selects "java/lang/Throwable" ⟨"java/lang/Throwable", "fillInStackTrace", "(I)Ljava/lang/Throwable;"⟩ ⟨"java/lang/Throwable", "fillInStackTrace", "(I)Ljava/lang/Throwable;"⟩ ∈ lw_g := lw_gp (List.mem_of_getElem? (i := 8) rfl) rfl
set_option maxRecDepth 100000 in
theorem p_9 : Cond.selects "ElasticKernel" ⟨"ElasticKernel", "beginTick", "()V"⟩ ⟨"ElasticKernel", "beginTick", "()V"⟩ ∈ lw_g := lw_gp (List.mem_of_getElem? (i := 9) rfl) rfl
set_option maxRecDepth 100000 in
theorem p_10 : Cond.selects "ElasticKernel" ⟨"ElasticKernel", "dismissLeavers", "()V"⟩ ⟨"ElasticKernel", "dismissLeavers", "()V"⟩ ∈ lw_g := lw_gp (List.mem_of_getElem? (i := 10) rfl) rfl
set_option maxRecDepth 100000 in
theorem p_11 : Cond.selects "ElasticKernel" ⟨"ElasticKernel", "countIfLate", "(LElasticKernel$Task;)V"⟩ ⟨"ElasticKernel", "countIfLate", "(LElasticKernel$Task;)V"⟩ ∈ lw_g := lw_gp (List.mem_of_getElem? (i := 11) rfl) rfl
set_option maxRecDepth 100000 in
theorem p_12 : Cond.selects "ElasticKernel$Task" ⟨"ElasticKernel$Task", "finish", "(I)V"⟩ ⟨"ElasticKernel$Task", "finish", "(I)V"⟩ ∈ lw_g := lw_gp (List.mem_of_getElem? (i := 12) rfl) rfl
set_option maxRecDepth 100000 in
theorem p_13 : Cond.selects "ElasticKernel" ⟨"ElasticKernel", "mostUrgent", "()LElasticKernel$Task;"⟩ ⟨"ElasticKernel", "mostUrgent", "()LElasticKernel$Task;"⟩ ∈ lw_g := lw_gp (List.mem_of_getElem? (i := 13) rfl) rfl
set_option maxRecDepth 100000 in
theorem p_14 : Cond.selects "ElasticKernel" ⟨"ElasticKernel", "ticksAlike", "(LElasticKernel$Task;)I"⟩ ⟨"ElasticKernel", "ticksAlike", "(LElasticKernel$Task;)I"⟩ ∈ lw_g := lw_gp (List.mem_of_getElem? (i := 14) rfl) rfl
set_option maxRecDepth 100000 in
theorem p_15 : Cond.selects "ElasticKernelModel" ⟨"ElasticKernelModel", "be", "(IJ)V"⟩ ⟨"ElasticKernelModel", "be", "(IJ)V"⟩ ∈ lw_g := lw_gp (List.mem_of_getElem? (i := 15) rfl) rfl
set_option maxRecDepth 100000 in
theorem p_16 : Cond.selects "ElasticKernelModel" ⟨"ElasticKernelModel", "find", "(I)I"⟩ ⟨"ElasticKernelModel", "find", "(I)I"⟩ ∈ lw_g := lw_gp (List.mem_of_getElem? (i := 16) rfl) rfl
set_option maxRecDepth 100000 in
theorem p_17 : Cond.selects "ElasticKernelModel" ⟨"ElasticKernelModel", "move", "(II)V"⟩ ⟨"ElasticKernelModel", "move", "(II)V"⟩ ∈ lw_g := lw_gp (List.mem_of_getElem? (i := 17) rfl) rfl
set_option maxRecDepth 100000 in
theorem p_18 : Cond.selects "ElasticKernelModel" ⟨"ElasticKernelModel", "copy", "(II)V"⟩ ⟨"ElasticKernelModel", "copy", "(II)V"⟩ ∈ lw_g := lw_gp (List.mem_of_getElem? (i := 18) rfl) rfl
set_option maxRecDepth 100000 in
theorem p_19 : Cond.selects "ElasticKernelModel" ⟨"ElasticKernelModel", "tooMuch", "(I)I"⟩ ⟨"ElasticKernelModel", "tooMuch", "(I)I"⟩ ∈ lw_g := lw_gp (List.mem_of_getElem? (i := 19) rfl) rfl
set_option maxRecDepth 100000 in
theorem p_20 : Cond.selects "ElasticKernelModel" ⟨"ElasticKernelModel", "none", "()V"⟩ ⟨"ElasticKernelModel", "none", "()V"⟩ ∈ lw_g := lw_gp (List.mem_of_getElem? (i := 20) rfl) rfl
set_option maxRecDepth 100000 in
theorem p_21 : Cond.selects "ElasticKernelModel" ⟨"ElasticKernelModel", "addFraction", "(II)V"⟩ ⟨"ElasticKernelModel", "addFraction", "(II)V"⟩ ∈ lw_g := lw_gp (List.mem_of_getElem? (i := 21) rfl) rfl
set_option maxRecDepth 100000 in
theorem p_22 : Cond.selects "ElasticKernelModel" ⟨"ElasticKernelModel", "times", "(II)V"⟩ ⟨"ElasticKernelModel", "times", "(II)V"⟩ ∈ lw_g := lw_gp (List.mem_of_getElem? (i := 22) rfl) rfl
set_option maxRecDepth 100000 in
theorem p_23 : Cond.selects "ElasticKernelModel" ⟨"ElasticKernelModel", "add", "(IIZ)V"⟩ ⟨"ElasticKernelModel", "add", "(IIZ)V"⟩ ∈ lw_g := lw_gp (List.mem_of_getElem? (i := 23) rfl) rfl
set_option maxRecDepth 100000 in
theorem p_24 : Cond.selects "ElasticKernelModel" ⟨"ElasticKernelModel", "isAbove", "(I)Z"⟩ ⟨"ElasticKernelModel", "isAbove", "(I)Z"⟩ ∈ lw_g := lw_gp (List.mem_of_getElem? (i := 24) rfl) rfl
set_option maxRecDepth 100000 in
theorem p_25 : Cond.selects "ElasticKernelModel" ⟨"ElasticKernelModel", "compare", "(II)I"⟩ ⟨"ElasticKernelModel", "compare", "(II)I"⟩ ∈ lw_g := lw_gp (List.mem_of_getElem? (i := 25) rfl) rfl
set_option maxRecDepth 100000 in
theorem p_26 : Cond.selects "ElasticKernelModel" ⟨"ElasticKernelModel", "remove", "(I)V"⟩ ⟨"ElasticKernelModel", "remove", "(I)V"⟩ ∈ lw_g := lw_gp (List.mem_of_getElem? (i := 26) rfl) rfl
set_option maxRecDepth 100000 in
theorem p_27 : Cond.selects "ElasticKernelModel" ⟨"ElasticKernelModel", "solve", "()V"⟩ ⟨"ElasticKernelModel", "solve", "()V"⟩ ∈ lw_g := lw_gp (List.mem_of_getElem? (i := 27) rfl) rfl
set_option maxRecDepth 100000 in
theorem p_28 : Cond.selects "ElasticKernelModel" ⟨"ElasticKernelModel", "counts", "(I)Z"⟩ ⟨"ElasticKernelModel", "counts", "(I)Z"⟩ ∈ lw_g := lw_gp (List.mem_of_getElem? (i := 28) rfl) rfl
set_option maxRecDepth 100000 in
theorem p_29 : Cond.selects "ElasticKernelModel" ⟨"ElasticKernelModel", "rankOf", "(I)I"⟩ ⟨"ElasticKernelModel", "rankOf", "(I)I"⟩ ∈ lw_g := lw_gp (List.mem_of_getElem? (i := 29) rfl) rfl
set_option maxRecDepth 100000 in
theorem p_30 : Cond.selects "ElasticKernelModel" ⟨"ElasticKernelModel", "isSofter", "(II)Z"⟩ ⟨"ElasticKernelModel", "isSofter", "(II)Z"⟩ ∈ lw_g := lw_gp (List.mem_of_getElem? (i := 30) rfl) rfl
set_option maxRecDepth 100000 in
theorem p_31 : Cond.selects "ElasticKernelModel" ⟨"ElasticKernelModel", "tryLeast", "(I)Z"⟩ ⟨"ElasticKernelModel", "tryLeast", "(I)Z"⟩ ∈ lw_g := lw_gp (List.mem_of_getElem? (i := 31) rfl) rfl
set_option maxRecDepth 100000 in
theorem p_32 : Cond.selects "ElasticKernelModel" ⟨"ElasticKernelModel", "product", "(III)V"⟩ ⟨"ElasticKernelModel", "product", "(III)V"⟩ ∈ lw_g := lw_gp (List.mem_of_getElem? (i := 32) rfl) rfl
set_option maxRecDepth 100000 in
theorem p_33 : Cond.selects "ElasticKernelModel" ⟨"ElasticKernelModel", "fits", "(I)Z"⟩ ⟨"ElasticKernelModel", "fits", "(I)Z"⟩ ∈ lw_g := lw_gp (List.mem_of_getElem? (i := 33) rfl) rfl
set_option maxRecDepth 100000 in
theorem p_34 : Cond.selects "ElasticKernelModel" ⟨"ElasticKernelModel", "press", "(II)V"⟩ ⟨"ElasticKernelModel", "press", "(II)V"⟩ ∈ lw_g := lw_gp (List.mem_of_getElem? (i := 34) rfl) rfl
set_option maxRecDepth 100000 in
theorem p_35 : Cond.selects "ElasticKernelModel" ⟨"ElasticKernelModel", "settle", "(I)V"⟩ ⟨"ElasticKernelModel", "settle", "(I)V"⟩ ∈ lw_g := lw_gp (List.mem_of_getElem? (i := 35) rfl) rfl
set_option maxRecDepth 100000 in
theorem p_36 : Cond.selects "ElasticKernelModel" ⟨"ElasticKernelModel", "findInstant", "()V"⟩ ⟨"ElasticKernelModel", "findInstant", "()V"⟩ ∈ lw_g := lw_gp (List.mem_of_getElem? (i := 36) rfl) rfl
set_option maxRecDepth 100000 in
theorem p_37 : Cond.selects "ElasticKernelModel" ⟨"ElasticKernelModel", "step", "()I"⟩ ⟨"ElasticKernelModel", "step", "()I"⟩ ∈ lw_g := lw_gp (List.mem_of_getElem? (i := 37) rfl) rfl
set_option maxRecDepth 100000 in
theorem p_38 : Cond.selects "ElasticKernelModel" ⟨"ElasticKernelModel", "release", "(IZ)V"⟩ ⟨"ElasticKernelModel", "release", "(IZ)V"⟩ ∈ lw_g := lw_gp (List.mem_of_getElem? (i := 38) rfl) rfl
set_option maxRecDepth 100000 in
theorem p_39 : Cond.selects "ElasticKernelModel" ⟨"ElasticKernelModel", "wordOf", "(III)I"⟩ ⟨"ElasticKernelModel", "wordOf", "(III)I"⟩ ∈ lw_g := lw_gp (List.mem_of_getElem? (i := 39) rfl) rfl
set_option maxRecDepth 100000 in
theorem p_40 : Cond.selects "ElasticKernelModel" ⟨"ElasticKernelModel", "reduce", "(II)V"⟩ ⟨"ElasticKernelModel", "reduce", "(II)V"⟩ ∈ lw_g := lw_gp (List.mem_of_getElem? (i := 40) rfl) rfl
set_option maxRecDepth 100000 in
theorem p_41 : Cond.selects "ElasticKernelModel" ⟨"ElasticKernelModel", "isZero", "(I)Z"⟩ ⟨"ElasticKernelModel", "isZero", "(I)Z"⟩ ∈ lw_g := lw_gp (List.mem_of_getElem? (i := 41) rfl) rfl
set_option maxRecDepth 100000 in
theorem p_42 : Cond.selects "ElasticKernelModel" ⟨"ElasticKernelModel", "isEven", "(I)Z"⟩ ⟨"ElasticKernelModel", "isEven", "(I)Z"⟩ ∈ lw_g := lw_gp (List.mem_of_getElem? (i := 42) rfl) rfl
set_option maxRecDepth 100000 in
theorem p_43 : Cond.selects "ElasticKernelModel" ⟨"ElasticKernelModel", "halve", "(I)V"⟩ ⟨"ElasticKernelModel", "halve", "(I)V"⟩ ∈ lw_g := lw_gp (List.mem_of_getElem? (i := 43) rfl) rfl
set_option maxRecDepth 100000 in
theorem p_44 : Cond.selects "ElasticKernelModel" ⟨"ElasticKernelModel", "quotient", "(I)V"⟩ ⟨"ElasticKernelModel", "quotient", "(I)V"⟩ ∈ lw_g := lw_gp (List.mem_of_getElem? (i := 44) rfl) rfl
set_option maxRecDepth 100000 in
theorem p_45 : Cond.selects "ElasticKernelModel" ⟨"ElasticKernelModel", "unused", "()I"⟩ ⟨"ElasticKernelModel", "unused", "()I"⟩ ∈ lw_g := lw_gp (List.mem_of_getElem? (i := 45) rfl) rfl
/-- the links to nest mates' fields -/
def ek_nest : List Cond := [(Jvm.Cond.fieldLinkNest "ElasticKernel$Divider" (45 : Nat) "ElasticKernel$Fraction" "above" "LElasticKernel$Natural;" "ElasticKernel"), (Jvm.Cond.fieldLinkNest "ElasticKernel$Springs" (69 : Nat) "ElasticKernel$Fraction" "above" "LElasticKernel$Natural;" "ElasticKernel"), (Jvm.Cond.fieldLinkNest "ElasticKernel" (157 : Nat) "ElasticKernel$Fraction" "above" "LElasticKernel$Natural;" "ElasticKernel"), (Jvm.Cond.fieldLinkNest "ElasticKernel$Divider" (50 : Nat) "ElasticKernel$Fraction" "below" "LElasticKernel$Natural;" "ElasticKernel"), (Jvm.Cond.fieldLinkNest "ElasticKernel$Springs" (73 : Nat) "ElasticKernel$Fraction" "below" "LElasticKernel$Natural;" "ElasticKernel"), (Jvm.Cond.fieldLinkNest "ElasticKernel" (169 : Nat) "ElasticKernel$Fraction" "below" "LElasticKernel$Natural;" "ElasticKernel"), (Jvm.Cond.fieldLinkNest "ElasticKernel$Roster" (22 : Nat) "ElasticKernel$Task" "id" "I" "ElasticKernel"), (Jvm.Cond.fieldLinkNest "ElasticKernel$Springs" (66 : Nat) "ElasticKernel$Task" "id" "I" "ElasticKernel"), (Jvm.Cond.fieldLinkNest "ElasticKernel" (101 : Nat) "ElasticKernel$Task" "id" "I" "ElasticKernel"), (Jvm.Cond.fieldLinkNest "ElasticKernel$Springs" (48 : Nat) "ElasticKernel$Task" "cost" "I" "ElasticKernel"), (Jvm.Cond.fieldLinkNest "ElasticKernel" (68 : Nat) "ElasticKernel$Task" "cost" "I" "ElasticKernel"), (Jvm.Cond.fieldLinkNest "ElasticKernel$Springs" (113 : Nat) "ElasticKernel$Task" "shortest" "I" "ElasticKernel"), (Jvm.Cond.fieldLinkNest "ElasticKernel$Springs" (53 : Nat) "ElasticKernel$Task" "longest" "I" "ElasticKernel"), (Jvm.Cond.fieldLinkNest "ElasticKernel$Springs" (116 : Nat) "ElasticKernel$Task" "stiffness" "I" "ElasticKernel"), (Jvm.Cond.fieldLinkNest "ElasticKernel" (65 : Nat) "ElasticKernel$Task" "phase" "I" "ElasticKernel"), (Jvm.Cond.fieldLinkNest "ElasticKernel" (108 : Nat) "ElasticKernel$Task" "period" "I" "ElasticKernel"), (Jvm.Cond.fieldLinkNest "ElasticKernel" (111 : Nat) "ElasticKernel$Task" "solvedPeriod" "I" "ElasticKernel"), (Jvm.Cond.fieldLinkNest "ElasticKernel$Springs" (130 : Nat) "ElasticKernel$Task" "solvedPeriod" "I" "ElasticKernel"), (Jvm.Cond.fieldLinkNest "ElasticKernel" (114 : Nat) "ElasticKernel$Task" "end" "I" "ElasticKernel"), (Jvm.Cond.fieldLinkNest "ElasticKernel" (117 : Nat) "ElasticKernel$Task" "needs" "I" "ElasticKernel"), (Jvm.Cond.fieldLinkNest "ElasticKernel" (71 : Nat) "ElasticKernel$Task" "told" "I" "ElasticKernel"), (Jvm.Cond.fieldLinkNest "ElasticKernel" (120 : Nat) "ElasticKernel$Task" "ends" "I" "ElasticKernel"), (Jvm.Cond.fieldLinkNest "ElasticKernel" (123 : Nat) "ElasticKernel$Task" "latestEnd" "I" "ElasticKernel"), (Jvm.Cond.fieldLinkNest "ElasticKernel$Springs" (105 : Nat) "ElasticKernel$Task" "isPinned" "Z" "ElasticKernel"), (Jvm.Cond.fieldLinkNest "ElasticKernel" (130 : Nat) "ElasticKernel$Task" "solvedLoad" "LElasticKernel$Fraction;" "ElasticKernel"), (Jvm.Cond.fieldLinkNest "ElasticKernel$Springs" (123 : Nat) "ElasticKernel$Task" "solvedLoad" "LElasticKernel$Fraction;" "ElasticKernel"), (Jvm.Cond.fieldLinkNest "ElasticKernel$Springs" (44 : Nat) "ElasticKernel$Roster" "row" "[LElasticKernel$Task;" "ElasticKernel"), (Jvm.Cond.fieldLinkNest "ElasticKernel" (187 : Nat) "ElasticKernel$Roster" "row" "[LElasticKernel$Task;" "ElasticKernel"), (Jvm.Cond.fieldLinkNest "ElasticKernel$Springs" (38 : Nat) "ElasticKernel$Roster" "size" "I" "ElasticKernel"), (Jvm.Cond.fieldLinkNest "ElasticKernel" (151 : Nat) "ElasticKernel$Roster" "size" "I" "ElasticKernel"), (Jvm.Cond.fieldLinkNest "ElasticKernel" (138 : Nat) "ElasticKernel$Springs" "allLoads" "LElasticKernel$Fraction;" "ElasticKernel")]
theorem n_60 : (Jvm.Cond.fieldLinkNest "ElasticKernel$Divider" (45 : Nat) "ElasticKernel$Fraction" "above" "LElasticKernel$Natural;" "ElasticKernel") ∈ ek_nest := List.mem_of_getElem? (i := 0) rfl
theorem n_61 : (Jvm.Cond.fieldLinkNest "ElasticKernel$Springs" (69 : Nat) "ElasticKernel$Fraction" "above" "LElasticKernel$Natural;" "ElasticKernel") ∈ ek_nest := List.mem_of_getElem? (i := 1) rfl
theorem n_62 : (Jvm.Cond.fieldLinkNest "ElasticKernel" (157 : Nat) "ElasticKernel$Fraction" "above" "LElasticKernel$Natural;" "ElasticKernel") ∈ ek_nest := List.mem_of_getElem? (i := 2) rfl
theorem n_64 : (Jvm.Cond.fieldLinkNest "ElasticKernel$Divider" (50 : Nat) "ElasticKernel$Fraction" "below" "LElasticKernel$Natural;" "ElasticKernel") ∈ ek_nest := List.mem_of_getElem? (i := 3) rfl
theorem n_65 : (Jvm.Cond.fieldLinkNest "ElasticKernel$Springs" (73 : Nat) "ElasticKernel$Fraction" "below" "LElasticKernel$Natural;" "ElasticKernel") ∈ ek_nest := List.mem_of_getElem? (i := 4) rfl
theorem n_66 : (Jvm.Cond.fieldLinkNest "ElasticKernel" (169 : Nat) "ElasticKernel$Fraction" "below" "LElasticKernel$Natural;" "ElasticKernel") ∈ ek_nest := List.mem_of_getElem? (i := 5) rfl
theorem n_72 : (Jvm.Cond.fieldLinkNest "ElasticKernel$Roster" (22 : Nat) "ElasticKernel$Task" "id" "I" "ElasticKernel") ∈ ek_nest := List.mem_of_getElem? (i := 6) rfl
theorem n_73 : (Jvm.Cond.fieldLinkNest "ElasticKernel$Springs" (66 : Nat) "ElasticKernel$Task" "id" "I" "ElasticKernel") ∈ ek_nest := List.mem_of_getElem? (i := 7) rfl
theorem n_74 : (Jvm.Cond.fieldLinkNest "ElasticKernel" (101 : Nat) "ElasticKernel$Task" "id" "I" "ElasticKernel") ∈ ek_nest := List.mem_of_getElem? (i := 8) rfl
theorem n_76 : (Jvm.Cond.fieldLinkNest "ElasticKernel$Springs" (48 : Nat) "ElasticKernel$Task" "cost" "I" "ElasticKernel") ∈ ek_nest := List.mem_of_getElem? (i := 9) rfl
theorem n_77 : (Jvm.Cond.fieldLinkNest "ElasticKernel" (68 : Nat) "ElasticKernel$Task" "cost" "I" "ElasticKernel") ∈ ek_nest := List.mem_of_getElem? (i := 10) rfl
theorem n_79 : (Jvm.Cond.fieldLinkNest "ElasticKernel$Springs" (113 : Nat) "ElasticKernel$Task" "shortest" "I" "ElasticKernel") ∈ ek_nest := List.mem_of_getElem? (i := 11) rfl
theorem n_81 : (Jvm.Cond.fieldLinkNest "ElasticKernel$Springs" (53 : Nat) "ElasticKernel$Task" "longest" "I" "ElasticKernel") ∈ ek_nest := List.mem_of_getElem? (i := 12) rfl
theorem n_83 : (Jvm.Cond.fieldLinkNest "ElasticKernel$Springs" (116 : Nat) "ElasticKernel$Task" "stiffness" "I" "ElasticKernel") ∈ ek_nest := List.mem_of_getElem? (i := 13) rfl
theorem n_85 : (Jvm.Cond.fieldLinkNest "ElasticKernel" (65 : Nat) "ElasticKernel$Task" "phase" "I" "ElasticKernel") ∈ ek_nest := List.mem_of_getElem? (i := 14) rfl
theorem n_87 : (Jvm.Cond.fieldLinkNest "ElasticKernel" (108 : Nat) "ElasticKernel$Task" "period" "I" "ElasticKernel") ∈ ek_nest := List.mem_of_getElem? (i := 15) rfl
theorem n_89 : (Jvm.Cond.fieldLinkNest "ElasticKernel" (111 : Nat) "ElasticKernel$Task" "solvedPeriod" "I" "ElasticKernel") ∈ ek_nest := List.mem_of_getElem? (i := 16) rfl
theorem n_90 : (Jvm.Cond.fieldLinkNest "ElasticKernel$Springs" (130 : Nat) "ElasticKernel$Task" "solvedPeriod" "I" "ElasticKernel") ∈ ek_nest := List.mem_of_getElem? (i := 17) rfl
theorem n_92 : (Jvm.Cond.fieldLinkNest "ElasticKernel" (114 : Nat) "ElasticKernel$Task" "end" "I" "ElasticKernel") ∈ ek_nest := List.mem_of_getElem? (i := 18) rfl
theorem n_94 : (Jvm.Cond.fieldLinkNest "ElasticKernel" (117 : Nat) "ElasticKernel$Task" "needs" "I" "ElasticKernel") ∈ ek_nest := List.mem_of_getElem? (i := 19) rfl
theorem n_96 : (Jvm.Cond.fieldLinkNest "ElasticKernel" (71 : Nat) "ElasticKernel$Task" "told" "I" "ElasticKernel") ∈ ek_nest := List.mem_of_getElem? (i := 20) rfl
theorem n_98 : (Jvm.Cond.fieldLinkNest "ElasticKernel" (120 : Nat) "ElasticKernel$Task" "ends" "I" "ElasticKernel") ∈ ek_nest := List.mem_of_getElem? (i := 21) rfl
theorem n_100 : (Jvm.Cond.fieldLinkNest "ElasticKernel" (123 : Nat) "ElasticKernel$Task" "latestEnd" "I" "ElasticKernel") ∈ ek_nest := List.mem_of_getElem? (i := 22) rfl
theorem n_101 : (Jvm.Cond.fieldLinkNest "ElasticKernel$Springs" (105 : Nat) "ElasticKernel$Task" "isPinned" "Z" "ElasticKernel") ∈ ek_nest := List.mem_of_getElem? (i := 23) rfl
theorem n_103 : (Jvm.Cond.fieldLinkNest "ElasticKernel" (130 : Nat) "ElasticKernel$Task" "solvedLoad" "LElasticKernel$Fraction;" "ElasticKernel") ∈ ek_nest := List.mem_of_getElem? (i := 24) rfl
theorem n_104 : (Jvm.Cond.fieldLinkNest "ElasticKernel$Springs" (123 : Nat) "ElasticKernel$Task" "solvedLoad" "LElasticKernel$Fraction;" "ElasticKernel") ∈ ek_nest := List.mem_of_getElem? (i := 25) rfl
theorem n_137 : (Jvm.Cond.fieldLinkNest "ElasticKernel$Springs" (44 : Nat) "ElasticKernel$Roster" "row" "[LElasticKernel$Task;" "ElasticKernel") ∈ ek_nest := List.mem_of_getElem? (i := 26) rfl
theorem n_138 : (Jvm.Cond.fieldLinkNest "ElasticKernel" (187 : Nat) "ElasticKernel$Roster" "row" "[LElasticKernel$Task;" "ElasticKernel") ∈ ek_nest := List.mem_of_getElem? (i := 27) rfl
theorem n_140 : (Jvm.Cond.fieldLinkNest "ElasticKernel$Springs" (38 : Nat) "ElasticKernel$Roster" "size" "I" "ElasticKernel") ∈ ek_nest := List.mem_of_getElem? (i := 28) rfl
theorem n_141 : (Jvm.Cond.fieldLinkNest "ElasticKernel" (151 : Nat) "ElasticKernel$Roster" "size" "I" "ElasticKernel") ∈ ek_nest := List.mem_of_getElem? (i := 29) rfl
theorem n_177 : (Jvm.Cond.fieldLinkNest "ElasticKernel" (138 : Nat) "ElasticKernel$Springs" "allLoads" "LElasticKernel$Fraction;" "ElasticKernel") ∈ ek_nest := List.mem_of_getElem? (i := 30) rfl
def T_Dv : u_T := fun k => match k with
  | 0 => ("ElasticKernel$Divider", "quotient", "LElasticKernel$Natural;", true)
  | 1 => ("ElasticKernel$Divider", "shifted", "LElasticKernel$Natural;", true)
  | 2 => ("ElasticKernel$Divider", "first", "LElasticKernel$Natural;", true)
  | _ => ("ElasticKernel$Divider", "second", "LElasticKernel$Natural;", true)
def ty_Dv : Nat → FieldType := fun k => match k with
  | 0 => .object "ElasticKernel$Natural"
  | 1 => .object "ElasticKernel$Natural"
  | 2 => .object "ElasticKernel$Natural"
  | _ => .object "ElasticKernel$Natural"
theorem nm_Dv : ∀ a, a < 4 → ∀ b, b < 4 → a ≠ b → (T_Dv a).2.1 ≠ (T_Dv b).2.1 := by decide +kernel
theorem ty_Dv_ok : ∀ k, k < 4 → parseFieldDescriptor (T_Dv k).2.2.1 = some (ty_Dv k) := by decide +kernel
theorem in_Dv : ∀ w ∈ u_ws "ElasticKernel$Divider" T_Dv 4, w ∈ lw_g := by
  intro w hw
  obtain ⟨k, hk, rfl⟩ := List.mem_map.mp hw
  have hk := List.mem_range.mp hk
  match k, hk with
  | 0, _ => exact q_167
  | 1, _ => exact q_169
  | 2, _ => exact q_171
  | 3, _ => exact q_173
  | j + 4, h => exact absurd h (by omega)
def T_Fr : u_T := fun k => match k with
  | 0 => ("ElasticKernel$Fraction", "above", "LElasticKernel$Natural;", true)
  | _ => ("ElasticKernel$Fraction", "below", "LElasticKernel$Natural;", true)
def ty_Fr : Nat → FieldType := fun k => match k with
  | 0 => .object "ElasticKernel$Natural"
  | _ => .object "ElasticKernel$Natural"
theorem nm_Fr : ∀ a, a < 2 → ∀ b, b < 2 → a ≠ b → (T_Fr a).2.1 ≠ (T_Fr b).2.1 := by decide +kernel
theorem ty_Fr_ok : ∀ k, k < 2 → parseFieldDescriptor (T_Fr k).2.2.1 = some (ty_Fr k) := by decide +kernel
theorem in_Fr : ∀ w ∈ u_ws "ElasticKernel$Fraction" T_Fr 2, w ∈ lw_g := by
  intro w hw
  obtain ⟨k, hk, rfl⟩ := List.mem_map.mp hw
  have hk := List.mem_range.mp hk
  match k, hk with
  | 0, _ => exact q_67
  | 1, _ => exact q_69
  | j + 2, h => exact absurd h (by omega)
def T_Na : u_T := fun k => match k with
  | _ => ("ElasticKernel$Natural", "words", "[I", true)
def ty_Na : Nat → FieldType := fun k => match k with
  | _ => .array (.int)
theorem nm_Na : ∀ a, a < 1 → ∀ b, b < 1 → a ≠ b → (T_Na a).2.1 ≠ (T_Na b).2.1 := by decide +kernel
theorem ty_Na_ok : ∀ k, k < 1 → parseFieldDescriptor (T_Na k).2.2.1 = some (ty_Na k) := by decide +kernel
theorem in_Na : ∀ w ∈ u_ws "ElasticKernel$Natural" T_Na 1, w ∈ lw_g := by
  intro w hw
  obtain ⟨k, hk, rfl⟩ := List.mem_map.mp hw
  have hk := List.mem_range.mp hk
  match k, hk with
  | 0, _ => exact q_50
  | j + 1, h => exact absurd h (by omega)
def T_Ro : u_T := fun k => match k with
  | 0 => ("ElasticKernel$Roster", "row", "[LElasticKernel$Task;", true)
  | _ => ("ElasticKernel$Roster", "size", "I", false)
def ty_Ro : Nat → FieldType := fun k => match k with
  | 0 => .array (.object "ElasticKernel$Task")
  | _ => .int
theorem nm_Ro : ∀ a, a < 2 → ∀ b, b < 2 → a ≠ b → (T_Ro a).2.1 ≠ (T_Ro b).2.1 := by decide +kernel
theorem ty_Ro_ok : ∀ k, k < 2 → parseFieldDescriptor (T_Ro k).2.2.1 = some (ty_Ro k) := by decide +kernel
theorem in_Ro : ∀ w ∈ u_ws "ElasticKernel$Roster" T_Ro 2, w ∈ lw_g := by
  intro w hw
  obtain ⟨k, hk, rfl⟩ := List.mem_map.mp hw
  have hk := List.mem_range.mp hk
  match k, hk with
  | 0, _ => exact q_142
  | 1, _ => exact q_144
  | j + 2, h => exact absurd h (by omega)
def T_Sp : u_T := fun k => match k with
  | 0 => ("ElasticKernel$Springs", "allLoads", "LElasticKernel$Fraction;", true)
  | 1 => ("ElasticKernel$Springs", "sum", "LElasticKernel$Fraction;", true)
  | 2 => ("ElasticKernel$Springs", "softness", "LElasticKernel$Fraction;", true)
  | 3 => ("ElasticKernel$Springs", "push", "LElasticKernel$Fraction;", true)
  | _ => ("ElasticKernel$Springs", "divider", "LElasticKernel$Divider;", true)
def ty_Sp : Nat → FieldType := fun k => match k with
  | 0 => .object "ElasticKernel$Fraction"
  | 1 => .object "ElasticKernel$Fraction"
  | 2 => .object "ElasticKernel$Fraction"
  | 3 => .object "ElasticKernel$Fraction"
  | _ => .object "ElasticKernel$Divider"
theorem nm_Sp : ∀ a, a < 5 → ∀ b, b < 5 → a ≠ b → (T_Sp a).2.1 ≠ (T_Sp b).2.1 := by decide +kernel
theorem ty_Sp_ok : ∀ k, k < 5 → parseFieldDescriptor (T_Sp k).2.2.1 = some (ty_Sp k) := by decide +kernel
theorem in_Sp : ∀ w ∈ u_ws "ElasticKernel$Springs" T_Sp 5, w ∈ lw_g := by
  intro w hw
  obtain ⟨k, hk, rfl⟩ := List.mem_map.mp hw
  have hk := List.mem_range.mp hk
  match k, hk with
  | 0, _ => exact q_182
  | 1, _ => exact q_184
  | 2, _ => exact q_186
  | 3, _ => exact q_188
  | 4, _ => exact q_190
  | j + 5, h => exact absurd h (by omega)
def T_Ta : u_T := fun k => match k with
  | 0 => ("ElasticKernel$Task", "id", "I", false)
  | 1 => ("ElasticKernel$Task", "cost", "I", false)
  | 2 => ("ElasticKernel$Task", "shortest", "I", false)
  | 3 => ("ElasticKernel$Task", "longest", "I", false)
  | 4 => ("ElasticKernel$Task", "stiffness", "I", false)
  | 5 => ("ElasticKernel$Task", "phase", "I", false)
  | 6 => ("ElasticKernel$Task", "period", "I", false)
  | 7 => ("ElasticKernel$Task", "solvedPeriod", "I", false)
  | 8 => ("ElasticKernel$Task", "end", "I", false)
  | 9 => ("ElasticKernel$Task", "needs", "I", false)
  | 10 => ("ElasticKernel$Task", "told", "I", false)
  | 11 => ("ElasticKernel$Task", "ends", "I", false)
  | 12 => ("ElasticKernel$Task", "latestEnd", "I", false)
  | 13 => ("ElasticKernel$Task", "isPinned", "Z", false)
  | _ => ("ElasticKernel$Task", "solvedLoad", "LElasticKernel$Fraction;", true)
def ty_Ta : Nat → FieldType := fun k => match k with
  | 0 => .int
  | 1 => .int
  | 2 => .int
  | 3 => .int
  | 4 => .int
  | 5 => .int
  | 6 => .int
  | 7 => .int
  | 8 => .int
  | 9 => .int
  | 10 => .int
  | 11 => .int
  | 12 => .int
  | 13 => .boolean
  | _ => .object "ElasticKernel$Fraction"
theorem nm_Ta : ∀ a, a < 15 → ∀ b, b < 15 → a ≠ b → (T_Ta a).2.1 ≠ (T_Ta b).2.1 := by decide +kernel
theorem ty_Ta_ok : ∀ k, k < 15 → parseFieldDescriptor (T_Ta k).2.2.1 = some (ty_Ta k) := by decide +kernel
theorem in_Ta : ∀ w ∈ u_ws "ElasticKernel$Task" T_Ta 15, w ∈ lw_g := by
  intro w hw
  obtain ⟨k, hk, rfl⟩ := List.mem_map.mp hw
  have hk := List.mem_range.mp hk
  match k, hk with
  | 0, _ => exact q_105
  | 1, _ => exact q_107
  | 2, _ => exact q_109
  | 3, _ => exact q_111
  | 4, _ => exact q_113
  | 5, _ => exact q_115
  | 6, _ => exact q_117
  | 7, _ => exact q_119
  | 8, _ => exact q_121
  | 9, _ => exact q_123
  | 10, _ => exact q_125
  | 11, _ => exact q_127
  | 12, _ => exact q_129
  | 13, _ => exact q_131
  | 14, _ => exact q_133
  | j + 15, h => exact absurd h (by omega)
def T_Ke : u_T := fun k => match k with
  | 0 => ("ElasticKernel", "roster", "LElasticKernel$Roster;", true)
  | 1 => ("ElasticKernel", "springs", "LElasticKernel$Springs;", true)
  | 2 => ("ElasticKernel", "clock", "I", false)
  | 3 => ("ElasticKernel", "allowed", "I", false)
  | 4 => ("ElasticKernel", "missed", "I", false)
  | 5 => ("ElasticKernel", "solves", "I", false)
  | 6 => ("ElasticKernel", "instant", "I", false)
  | _ => ("ElasticKernel", "refusedAt", "I", false)
def ty_Ke : Nat → FieldType := fun k => match k with
  | 0 => .object "ElasticKernel$Roster"
  | 1 => .object "ElasticKernel$Springs"
  | 2 => .int
  | 3 => .int
  | 4 => .int
  | 5 => .int
  | 6 => .int
  | _ => .int
theorem nm_Ke : ∀ a, a < 8 → ∀ b, b < 8 → a ≠ b → (T_Ke a).2.1 ≠ (T_Ke b).2.1 := by decide +kernel
theorem ty_Ke_ok : ∀ k, k < 8 → parseFieldDescriptor (T_Ke k).2.2.1 = some (ty_Ke k) := by decide +kernel
theorem in_Ke : ∀ w ∈ u_ws "ElasticKernel" T_Ke 8, w ∈ lw_g := by
  intro w hw
  obtain ⟨k, hk, rfl⟩ := List.mem_map.mp hw
  have hk := List.mem_range.mp hk
  match k, hk with
  | 0, _ => exact q_201
  | 1, _ => exact q_203
  | 2, _ => exact q_205
  | 3, _ => exact q_207
  | 4, _ => exact q_209
  | 5, _ => exact q_211
  | 6, _ => exact q_213
  | 7, _ => exact q_215
  | j + 8, h => exact absurd h (by omega)
def T_Mo : u_T := fun k => match k with
  | 0 => ("ElasticKernelModel", "code", "I", false)
  | 1 => ("ElasticKernelModel", "clock", "I", false)
  | 2 => ("ElasticKernelModel", "allowed", "I", false)
  | 3 => ("ElasticKernelModel", "missed", "I", false)
  | 4 => ("ElasticKernelModel", "solves", "I", false)
  | 5 => ("ElasticKernelModel", "instant", "I", false)
  | 6 => ("ElasticKernelModel", "refused", "I", false)
  | 7 => ("ElasticKernelModel", "many", "I", false)
  | 8 => ("ElasticKernelModel", "id", "[I", true)
  | 9 => ("ElasticKernelModel", "cost", "[I", true)
  | 10 => ("ElasticKernelModel", "shortest", "[I", true)
  | 11 => ("ElasticKernelModel", "longest", "[I", true)
  | 12 => ("ElasticKernelModel", "stiff", "[I", true)
  | 13 => ("ElasticKernelModel", "state", "[I", true)
  | 14 => ("ElasticKernelModel", "period", "[I", true)
  | 15 => ("ElasticKernelModel", "solved", "[I", true)
  | 16 => ("ElasticKernelModel", "ends", "[I", true)
  | 17 => ("ElasticKernelModel", "needs", "[I", true)
  | 18 => ("ElasticKernelModel", "told", "[I", true)
  | 19 => ("ElasticKernelModel", "done", "[I", true)
  | 20 => ("ElasticKernelModel", "latest", "[I", true)
  | 21 => ("ElasticKernelModel", "due", "[I", true)
  | 22 => ("ElasticKernelModel", "least", "[Z", true)
  | 23 => ("ElasticKernelModel", "word", "[I", true)
  | _ => ("ElasticKernelModel", "rank", "[I", true)
def ty_Mo : Nat → FieldType := fun k => match k with
  | 0 => .int
  | 1 => .int
  | 2 => .int
  | 3 => .int
  | 4 => .int
  | 5 => .int
  | 6 => .int
  | 7 => .int
  | 8 => .array (.int)
  | 9 => .array (.int)
  | 10 => .array (.int)
  | 11 => .array (.int)
  | 12 => .array (.int)
  | 13 => .array (.int)
  | 14 => .array (.int)
  | 15 => .array (.int)
  | 16 => .array (.int)
  | 17 => .array (.int)
  | 18 => .array (.int)
  | 19 => .array (.int)
  | 20 => .array (.int)
  | 21 => .array (.int)
  | 22 => .array (.boolean)
  | 23 => .array (.int)
  | _ => .array (.int)
theorem nm_Mo : ∀ a, a < 25 → ∀ b, b < 25 → a ≠ b → (T_Mo a).2.1 ≠ (T_Mo b).2.1 := by decide +kernel
theorem ty_Mo_ok : ∀ k, k < 25 → parseFieldDescriptor (T_Mo k).2.2.1 = some (ty_Mo k) := by decide +kernel
theorem in_Mo : ∀ w ∈ u_ws "ElasticKernelModel" T_Mo 25, w ∈ lw_g := by
  intro w hw
  obtain ⟨k, hk, rfl⟩ := List.mem_map.mp hw
  have hk := List.mem_range.mp hk
  match k, hk with
  | 0, _ => exact q_601
  | 1, _ => exact q_603
  | 2, _ => exact q_605
  | 3, _ => exact q_607
  | 4, _ => exact q_609
  | 5, _ => exact q_611
  | 6, _ => exact q_613
  | 7, _ => exact q_615
  | 8, _ => exact q_617
  | 9, _ => exact q_619
  | 10, _ => exact q_621
  | 11, _ => exact q_623
  | 12, _ => exact q_625
  | 13, _ => exact q_627
  | 14, _ => exact q_629
  | 15, _ => exact q_631
  | 16, _ => exact q_633
  | 17, _ => exact q_635
  | 18, _ => exact q_637
  | 19, _ => exact q_639
  | 20, _ => exact q_641
  | 21, _ => exact q_643
  | 22, _ => exact q_645
  | 23, _ => exact q_647
  | 24, _ => exact q_649
  | j + 25, h => exact absurd h (by omega)
abbrev ek_TaskC : String := "ElasticKernel$Task"
abbrev vwCl : List vw_C := [("ElasticKernel$Divider", T_Dv, 4), ("ElasticKernel$Fraction", T_Fr, 2), ("ElasticKernel$Natural", T_Na, 1), ("ElasticKernel$Roster", T_Ro, 2), ("ElasticKernel$Springs", T_Sp, 5), ("ElasticKernel$Task", T_Ta, 15), ("ElasticKernel", T_Ke, 8), ("ElasticKernelModel", T_Mo, 25)]
/-- references in fields: how many cells on -/
def ek_ro : Nat → Nat → Nat
  | 1, 0 => 1
  | 1, 1 => 3
  | 1, 2 => 5
  | 1, 3 => 7
  | 2, 0 => 1
  | 2, 1 => 3
  | 3, 0 => 1
  | 4, 0 => 1
  | 5, 0 => 1
  | 5, 1 => 6
  | 5, 2 => 11
  | 5, 3 => 16
  | 5, 4 => 21
  | 6, 14 => 1
  | 7, 0 => 1
  | 7, 1 => 75
  | 8, 8 => 1
  | 8, 9 => 2
  | 8, 10 => 3
  | 8, 11 => 4
  | 8, 12 => 5
  | 8, 13 => 6
  | 8, 14 => 7
  | 8, 15 => 8
  | 8, 16 => 9
  | 8, 17 => 10
  | 8, 18 => 11
  | 8, 19 => 12
  | 8, 20 => 13
  | 8, 21 => 14
  | 8, 22 => 15
  | 8, 23 => 16
  | 8, 24 => 17
  | _, _ => 0
abbrev y_Ke_init : MethodName := ⟨"ElasticKernel", "<init>", "()V"⟩
abbrev y_Ke_add : MethodName := ⟨"ElasticKernel", "add", "(IIIII)I"⟩
abbrev y_Ke_leave : MethodName := ⟨"ElasticKernel", "leave", "(I)Z"⟩
abbrev y_Ke_load : MethodName := ⟨"ElasticKernel", "load", "(I)Z"⟩
abbrev y_Ke_use : MethodName := ⟨"ElasticKernel", "use", "(II)Z"⟩
abbrev y_Ke_tick : MethodName := ⟨"ElasticKernel", "tick", "(I)I"⟩
abbrev y_Ke_task : MethodName := ⟨"ElasticKernel", "task", "(II)I"⟩
abbrev y_Ke_rate : MethodName := ⟨"ElasticKernel", "rate", "(III)I"⟩
abbrev y_Ke_total : MethodName := ⟨"ElasticKernel", "total", "(II)I"⟩
abbrev y_Ke_state : MethodName := ⟨"ElasticKernel", "state", "(I)I"⟩
abbrev y_Ke_isWithin : MethodName := ⟨"ElasticKernel", "isWithin", "(II)Z"⟩
abbrev y_Ke_arePeriods : MethodName := ⟨"ElasticKernel", "arePeriods", "(III)Z"⟩
abbrev y_Ke_wordOf : MethodName := ⟨"ElasticKernel", "wordOf", "(LElasticKernel$Fraction;II)I"⟩
abbrev y_Ke_isRefused : MethodName := ⟨"ElasticKernel", "isRefused", "(I)Z"⟩
abbrev y_Ke_solve : MethodName := ⟨"ElasticKernel", "solve", "()V"⟩
abbrev y_Ke_beginTick : MethodName := ⟨"ElasticKernel", "beginTick", "()V"⟩
abbrev y_Ke_dismissLeavers : MethodName := ⟨"ElasticKernel", "dismissLeavers", "()V"⟩
abbrev y_Ke_countIfLate : MethodName := ⟨"ElasticKernel", "countIfLate", "(LElasticKernel$Task;)V"⟩
abbrev y_Ke_mostUrgent : MethodName := ⟨"ElasticKernel", "mostUrgent", "()LElasticKernel$Task;"⟩
abbrev y_Ke_ticksAlike : MethodName := ⟨"ElasticKernel", "ticksAlike", "(LElasticKernel$Task;)I"⟩
abbrev y_Mo_init : MethodName := ⟨"ElasticKernelModel", "<init>", "()V"⟩
abbrev y_Mo_thrown : MethodName := ⟨"ElasticKernelModel", "thrown", "()I"⟩
abbrev y_Mo_be : MethodName := ⟨"ElasticKernelModel", "be", "(IJ)V"⟩
abbrev y_Mo_copy : MethodName := ⟨"ElasticKernelModel", "copy", "(II)V"⟩
abbrev y_Mo_compare : MethodName := ⟨"ElasticKernelModel", "compare", "(II)I"⟩
abbrev y_Mo_isZero : MethodName := ⟨"ElasticKernelModel", "isZero", "(I)Z"⟩
abbrev y_Mo_add3 : MethodName := ⟨"ElasticKernelModel", "add", "(IIZ)V"⟩
abbrev y_Mo_times : MethodName := ⟨"ElasticKernelModel", "times", "(II)V"⟩
abbrev y_Mo_product : MethodName := ⟨"ElasticKernelModel", "product", "(III)V"⟩
abbrev y_Mo_halve : MethodName := ⟨"ElasticKernelModel", "halve", "(I)V"⟩
abbrev y_Mo_isEven : MethodName := ⟨"ElasticKernelModel", "isEven", "(I)Z"⟩
abbrev y_Mo_reduce : MethodName := ⟨"ElasticKernelModel", "reduce", "(II)V"⟩
abbrev y_Mo_quotient : MethodName := ⟨"ElasticKernelModel", "quotient", "(I)V"⟩
abbrev y_Mo_counts : MethodName := ⟨"ElasticKernelModel", "counts", "(I)Z"⟩
abbrev y_Mo_addFraction : MethodName := ⟨"ElasticKernelModel", "addFraction", "(II)V"⟩
abbrev y_Mo_isAbove : MethodName := ⟨"ElasticKernelModel", "isAbove", "(I)Z"⟩
abbrev y_Mo_none : MethodName := ⟨"ElasticKernelModel", "none", "()V"⟩
abbrev y_Mo_isSofter : MethodName := ⟨"ElasticKernelModel", "isSofter", "(II)Z"⟩
abbrev y_Mo_rankOf : MethodName := ⟨"ElasticKernelModel", "rankOf", "(I)I"⟩
abbrev y_Mo_tryLeast : MethodName := ⟨"ElasticKernelModel", "tryLeast", "(I)Z"⟩
abbrev y_Mo_fits : MethodName := ⟨"ElasticKernelModel", "fits", "(I)Z"⟩
abbrev y_Mo_solve : MethodName := ⟨"ElasticKernelModel", "solve", "()V"⟩
abbrev y_Mo_press : MethodName := ⟨"ElasticKernelModel", "press", "(II)V"⟩
abbrev y_Mo_settle : MethodName := ⟨"ElasticKernelModel", "settle", "(I)V"⟩
abbrev y_Mo_findInstant : MethodName := ⟨"ElasticKernelModel", "findInstant", "()V"⟩
abbrev y_Mo_find : MethodName := ⟨"ElasticKernelModel", "find", "(I)I"⟩
abbrev y_Mo_move : MethodName := ⟨"ElasticKernelModel", "move", "(II)V"⟩
abbrev y_Mo_remove : MethodName := ⟨"ElasticKernelModel", "remove", "(I)V"⟩
abbrev y_Mo_tooMuch : MethodName := ⟨"ElasticKernelModel", "tooMuch", "(I)I"⟩
abbrev y_Mo_add5 : MethodName := ⟨"ElasticKernelModel", "add", "(IIIII)I"⟩
abbrev y_Mo_leave : MethodName := ⟨"ElasticKernelModel", "leave", "(I)Z"⟩
abbrev y_Mo_load : MethodName := ⟨"ElasticKernelModel", "load", "(I)Z"⟩
abbrev y_Mo_use : MethodName := ⟨"ElasticKernelModel", "use", "(II)Z"⟩
abbrev y_Mo_release : MethodName := ⟨"ElasticKernelModel", "release", "(IZ)V"⟩
abbrev y_Mo_step : MethodName := ⟨"ElasticKernelModel", "step", "()I"⟩
abbrev y_Mo_tick : MethodName := ⟨"ElasticKernelModel", "tick", "(I)I"⟩
abbrev y_Mo_task : MethodName := ⟨"ElasticKernelModel", "task", "(II)I"⟩
abbrev y_Mo_wordOf : MethodName := ⟨"ElasticKernelModel", "wordOf", "(III)I"⟩
abbrev y_Mo_rate : MethodName := ⟨"ElasticKernelModel", "rate", "(III)I"⟩
abbrev y_Mo_total : MethodName := ⟨"ElasticKernelModel", "total", "(II)I"⟩
abbrev y_Mo_unused : MethodName := ⟨"ElasticKernelModel", "unused", "()I"⟩
abbrev y_Mo_state : MethodName := ⟨"ElasticKernelModel", "state", "(I)I"⟩
abbrev y_Dv_init : MethodName := ⟨"ElasticKernel$Divider", "<init>", "()V"⟩
abbrev y_Dv_ratioUp : MethodName := ⟨"ElasticKernel$Divider", "ratioUp", "(LElasticKernel$Natural;ILElasticKernel$Natural;)I"⟩
abbrev y_Dv_reduce : MethodName := ⟨"ElasticKernel$Divider", "reduce", "(LElasticKernel$Fraction;)V"⟩
abbrev y_Dv_divide : MethodName := ⟨"ElasticKernel$Divider", "divide", "(LElasticKernel$Natural;LElasticKernel$Natural;)V"⟩
abbrev y_Fr_init : MethodName := ⟨"ElasticKernel$Fraction", "<init>", "()V"⟩
abbrev y_Fr_set : MethodName := ⟨"ElasticKernel$Fraction", "set", "(II)V"⟩
abbrev y_Fr_copy : MethodName := ⟨"ElasticKernel$Fraction", "copy", "(LElasticKernel$Fraction;)V"⟩
abbrev y_Fr_setRatio : MethodName := ⟨"ElasticKernel$Fraction", "setRatio", "(LElasticKernel$Fraction;LElasticKernel$Fraction;)V"⟩
abbrev y_Fr_divideBy : MethodName := ⟨"ElasticKernel$Fraction", "divideBy", "(I)V"⟩
abbrev y_Fr_compare : MethodName := ⟨"ElasticKernel$Fraction", "compare", "(JJ)I"⟩
abbrev y_Fr_join : MethodName := ⟨"ElasticKernel$Fraction", "join", "(III)V"⟩
abbrev y_Fr_commonFactor : MethodName := ⟨"ElasticKernel$Fraction", "commonFactor", "(II)I"⟩
abbrev y_Na_init : MethodName := ⟨"ElasticKernel$Natural", "<init>", "()V"⟩
abbrev y_Na_word : MethodName := ⟨"ElasticKernel$Natural", "word", "(I)I"⟩
abbrev y_Na_isZero : MethodName := ⟨"ElasticKernel$Natural", "isZero", "()Z"⟩
abbrev y_Na_bitLength : MethodName := ⟨"ElasticKernel$Natural", "bitLength", "()I"⟩
abbrev y_Na_set : MethodName := ⟨"ElasticKernel$Natural", "set", "(I)V"⟩
abbrev y_Na_copy : MethodName := ⟨"ElasticKernel$Natural", "copy", "(LElasticKernel$Natural;)V"⟩
abbrev y_Na_setBit : MethodName := ⟨"ElasticKernel$Natural", "setBit", "(I)V"⟩
abbrev y_Na_setShifted : MethodName := ⟨"ElasticKernel$Natural", "setShifted", "(LElasticKernel$Natural;I)V"⟩
abbrev y_Na_setProduct : MethodName := ⟨"ElasticKernel$Natural", "setProduct", "(LElasticKernel$Natural;LElasticKernel$Natural;)V"⟩
abbrev y_Na_multiply : MethodName := ⟨"ElasticKernel$Natural", "multiply", "(I)V"⟩
abbrev y_Na_weigh : MethodName := ⟨"ElasticKernel$Natural", "weigh", "(JLElasticKernel$Natural;J)V"⟩
abbrev y_Na_remainder : MethodName := ⟨"ElasticKernel$Natural", "remainder", "(I)I"⟩
abbrev y_Na_divideExactly : MethodName := ⟨"ElasticKernel$Natural", "divideExactly", "(I)V"⟩
abbrev y_Na_compareProducts : MethodName := ⟨"ElasticKernel$Natural", "compareProducts", "(LElasticKernel$Natural;JLElasticKernel$Natural;J)I"⟩
abbrev y_Ro_init : MethodName := ⟨"ElasticKernel$Roster", "<init>", "()V"⟩
abbrev y_Ro_find : MethodName := ⟨"ElasticKernel$Roster", "find", "(I)LElasticKernel$Task;"⟩
abbrev y_Ro_enter : MethodName := ⟨"ElasticKernel$Roster", "enter", "(I)LElasticKernel$Task;"⟩
abbrev y_Ro_drop : MethodName := ⟨"ElasticKernel$Roster", "drop", "(LElasticKernel$Task;)V"⟩
abbrev y_Sp_init : MethodName := ⟨"ElasticKernel$Springs", "<init>", "()V"⟩
abbrev y_Sp_firstTooMuch : MethodName := ⟨"ElasticKernel$Springs", "firstTooMuch", "(LElasticKernel$Roster;I)I"⟩
abbrev y_Sp_thousandthsInUse : MethodName := ⟨"ElasticKernel$Springs", "thousandthsInUse", "()I"⟩
abbrev y_Sp_haveRoom : MethodName := ⟨"ElasticKernel$Springs", "haveRoom", "(LElasticKernel$Roster;I)Z"⟩
abbrev y_Sp_relax : MethodName := ⟨"ElasticKernel$Springs", "relax", "()V"⟩
abbrev y_Sp_press : MethodName := ⟨"ElasticKernel$Springs", "press", "(LElasticKernel$Roster;I)V"⟩
abbrev y_Sp_unpin : MethodName := ⟨"ElasticKernel$Springs", "unpin", "(LElasticKernel$Roster;)V"⟩
abbrev y_Sp_addUp : MethodName := ⟨"ElasticKernel$Springs", "addUp", "(LElasticKernel$Roster;)V"⟩
abbrev y_Sp_addUpSoftness : MethodName := ⟨"ElasticKernel$Springs", "addUpSoftness", "(LElasticKernel$Roster;)V"⟩
abbrev y_Sp_pinPressed : MethodName := ⟨"ElasticKernel$Springs", "pinPressed", "(LElasticKernel$Roster;)Z"⟩
abbrev y_Sp_isTooMuchFor : MethodName := ⟨"ElasticKernel$Springs", "isTooMuchFor", "(LElasticKernel$Task;)Z"⟩
abbrev y_Sp_setLoad : MethodName := ⟨"ElasticKernel$Springs", "setLoad", "(LElasticKernel$Task;)V"⟩
abbrev y_Ta_init : MethodName := ⟨"ElasticKernel$Task", "<init>", "()V"⟩
abbrev y_Ta_announce : MethodName := ⟨"ElasticKernel$Task", "announce", "(IIII)V"⟩
abbrev y_Ta_isSolved : MethodName := ⟨"ElasticKernel$Task", "isSolved", "()Z"⟩
abbrev y_Ta_holdsUpChange : MethodName := ⟨"ElasticKernel$Task", "holdsUpChange", "()Z"⟩
abbrev y_Ta_isPressedFlat : MethodName := ⟨"ElasticKernel$Task", "isPressedFlat", "()Z"⟩
abbrev y_Ta_release : MethodName := ⟨"ElasticKernel$Task", "release", "(IZ)V"⟩
abbrev y_Ta_work : MethodName := ⟨"ElasticKernel$Task", "work", "(II)V"⟩
abbrev y_Ta_finish : MethodName := ⟨"ElasticKernel$Task", "finish", "(I)V"⟩
abbrev y_Ig_numberOfLeadingZeros : MethodName := ⟨"java/lang/Integer", "numberOfLeadingZeros", "(I)I"⟩
end
section
/-! THE ABSTRACT HEAP. A world is a set of cells with numbers x (kind kd x, 0 = none) at the addresses G.2.2 + x; its contents are ints I x j; references in fields are fixed (ek_ro), those in the Task row are kept as numbers. Programs over it are Option-valued functions; a row turns 'the function answers some r' at an instruction into the same at the next. -/
abbrev ek_St : Type := Nat → Nat → Int32
abbrev ek_G : Type := va_G × (Nat → ClassId) × Nat
def ek_up (I : ek_St) (x j : Nat) (v : Int32) : ek_St := fun y k => if y = x ∧ k = j then v else I y k
def ek_ck {β : Type} (c : Prop) [Decidable c] (k : Option β) : Option β := if c then k else none
def ek_let {α β : Type} (e : α) (k : α → Option β) : Option β := k e
def ek_bi {α β : Type} (o : Option (ek_St × α)) (k : ek_St → α → Option β) : Option β := match o with
  | some q => k q.1 q.2
  | none => none
def ek_bv {β : Type} (o : Option ek_St) (k : ek_St → Option β) : Option β := match o with
  | some q => k q
  | none => none
theorem ek_ck_s {β : Type} {c : Prop} [Decidable c] {k : Option β} {r : β} (h : ek_ck c k = some r) : c ∧ k = some r := by
  unfold ek_ck at h
  split at h
  · exact ⟨by assumption, h⟩
  · cases h
theorem ek_bi_s {α β : Type} {o : Option (ek_St × α)} {k : ek_St → α → Option β} {r : β} (h : ek_bi o k = some r) : ∃ (I : ek_St) (v : α), o = some (I, v) ∧ k I v = some r := by
  cases o with
  | none => cases h
  | some q => exact ⟨q.1, q.2, rfl, h⟩
theorem ek_bv_s {β : Type} {o : Option ek_St} {k : ek_St → Option β} {r : β} (h : ek_bv o k = some r) : ∃ I : ek_St, o = some I ∧ k I = some r := by
  cases o with
  | none => cases h
  | some q => exact ⟨q, rfl, h⟩
theorem ek_t {β : Type} {c : Prop} [Decidable c] {a b : Option β} {r : β} (h : c) (hf : (if c then a else b) = some r) : a = some r := by rw [if_pos h] at hf; exact hf
theorem ek_f {β : Type} {c : Prop} [Decidable c] {a b : Option β} {r : β} (h : ¬ c) (hf : (if c then a else b) = some r) : b = some r := by rw [if_neg h] at hf; exact hf
abbrev ek_in (i : Int32) (n : Nat) : Prop := ¬ (i < 0 ∨ n ≤ i.toNatClampNeg)
def ek_r (G : ek_G) (x : Nat) : Value := if x = 0 then .null else .ref (G.2.2 + x)
theorem ek_r_cat {G : ek_G} {x : Nat} : (ek_r G x).category = 1 := by unfold ek_r; split <;> rfl
theorem ek_r_ref {G : ek_G} {x : Nat} (h : x ≠ 0) : ek_r G x = .ref (G.2.2 + x) := by unfold ek_r; rw [if_neg h]
theorem ek_r_null {G : ek_G} : ek_r G 0 = .null := by unfold ek_r; rw [if_pos rfl]
def ek_o (G : ek_G) (x : Nat) : Option Nat := if x = 0 then none else some (G.2.2 + x)
theorem ek_o_r {G : ek_G} {x : Nat} : va_rf (ek_o G x) = ek_r G x := by
  unfold ek_o ek_r
  by_cases h : x = 0
  · rw [if_pos h, if_pos h]; rfl
  · rw [if_neg h, if_neg h]; rfl
def ek_V (G : ek_G) (kx x : Nat) (f : Nat → Int32) (j : Nat) : Value := if ek_ro kx j = 0 then .int (f j) else .ref (G.2.2 + (x + ek_ro kx j))
def ek_at (G : ek_G) (kx x : Nat) (f : Nat → Int32) (H : Heap) : Prop :=
  if kx < 20 then ∃ r : vw_C, vwCl[kx - 1]? = some r ∧ t_OB (G.2.2 + x) (G.1.1 (kx - 1)) r.2.2 (G.1.2 (kx - 1)) H (ek_V G kx x f)
  else if kx = 50 then H[G.2.2 + x]? = some (vp_cell (G.2.1 1) (12, .inl f))
  else if kx = 60 then H[G.2.2 + x]? = some (vp_cell (G.2.1 2) (12, .inr (.inr (.inr (.inr (fun j => ek_o G (f j).toNatClampNeg))))))
  else H[G.2.2 + x]? = some (vp_cell (G.2.1 0) (kx - 100, .inl f))
def ek_W (G : ek_G) (kd : Nat → Nat) (I : ek_St) (H : Heap) : Prop := kd 0 = 0 ∧ ∀ x, kd x ≠ 0 → ek_at G (kd x) x (I x) H
abbrev ek_K0 (G : ek_G) (s : State) : Prop := va_K G.1 vwCl [(G.2.1 0, .int), (G.2.1 1, .boolean), (G.2.1 2, .object ek_TaskC)] s
def ek_K (G : ek_G) (s : State) : Prop := ek_K0 G s ∧ ∀ w ∈ ek_nest, va_Nw w s
/-- the addresses of a world -/
def ek_A (G : ek_G) (kd : Nat → Nat) (q : Nat) : Prop := ∃ x, kd x ≠ 0 ∧ q = G.2.2 + x
theorem ek_at_kept {G : ek_G} {kx x : Nat} {f : Nat → Int32} {H H1 : Heap} (h : ek_at G kx x f H) (e : H1[G.2.2 + x]? = H[G.2.2 + x]?) : ek_at G kx x f H1 := by
  unfold ek_at at h ⊢
  split
  · rename_i h1
    rw [if_pos h1] at h
    obtain ⟨r, a, c⟩ := h
    exact ⟨r, a, c.kept e⟩
  · rename_i h1
    rw [if_neg h1] at h
    split
    · rename_i h2
      rw [if_pos h2] at h
      exact e.trans h
    · rename_i h2
      rw [if_neg h2] at h
      split
      · rename_i h3
        rw [if_pos h3] at h
        exact e.trans h
      · rename_i h3
        rw [if_neg h3] at h
        exact e.trans h
theorem ek_W_kept {G : ek_G} {kd : Nat → Nat} {I : ek_St} {H H1 : Heap} (h : ek_W G kd I H) (e : ∀ x, kd x ≠ 0 → H1[G.2.2 + x]? = H[G.2.2 + x]?) : ek_W G kd I H1 := ⟨h.1, fun x hx => ek_at_kept (h.2 x hx) (e x hx)⟩
theorem ek_W_obj {G : ek_G} {kd : Nat → Nat} {I : ek_St} {H : Heap} (h : ek_W G kd I H) {x kx : Nat} {q : vw_C} (hx : kd x = kx) (h0 : kx ≠ 0) (h1 : kx < 20) (hc : vwCl[kx - 1]? = some q) : t_OB (G.2.2 + x) (G.1.1 (kx - 1)) q.2.2 (G.1.2 (kx - 1)) H (ek_V G kx x (I x)) := by
  have a := h.2 x (by rw [hx]; exact h0)
  rw [hx] at a
  unfold ek_at at a
  rw [if_pos h1] at a
  obtain ⟨r, e1, e2⟩ := a
  have : r = q := Option.some.inj (e1.symm.trans hc)
  subst this
  exact e2
theorem ek_W_int {G : ek_G} {kd : Nat → Nat} {I : ek_St} {H : Heap} (h : ek_W G kd I H) {x n : Nat} (hx : kd x = 100 + n) : H[G.2.2 + x]? = some (vp_cell (G.2.1 0) (n, .inl (I x))) := by
  have a := h.2 x (by rw [hx]; omega)
  rw [hx] at a
  unfold ek_at at a
  rw [if_neg (by omega), if_neg (by omega), if_neg (by omega), Nat.add_sub_cancel_left] at a
  exact a
theorem ek_W_bool {G : ek_G} {kd : Nat → Nat} {I : ek_St} {H : Heap} (h : ek_W G kd I H) {x : Nat} (hx : kd x = 50) : H[G.2.2 + x]? = some (vp_cell (G.2.1 1) (12, .inl (I x))) := by
  have a := h.2 x (by rw [hx]; omega)
  rw [hx] at a
  unfold ek_at at a
  rw [if_neg (by omega), if_pos rfl] at a
  exact a
theorem ek_W_row {G : ek_G} {kd : Nat → Nat} {I : ek_St} {H : Heap} (h : ek_W G kd I H) {x : Nat} (hx : kd x = 60) : H[G.2.2 + x]? = some (vp_cell (G.2.1 2) (12, .inr (.inr (.inr (.inr (fun j => ek_o G (I x j).toNatClampNeg)))))) := by
  have a := h.2 x (by rw [hx]; omega)
  rw [hx] at a
  unfold ek_at at a
  rw [if_neg (by omega), if_neg (by omega), if_pos rfl] at a
  exact a
theorem ek_up_ne {I : ek_St} {x j y : Nat} {v : Int32} (h : y ≠ x) : ek_up I x j v y = I y := by
  funext k
  simp [ek_up, h]
theorem ek_up_self {I : ek_St} {x j : Nat} {v : Int32} : ek_up I x j v x = upd (I x) j v := by
  funext k
  simp [ek_up, upd]
/-- one cell is written -/
theorem ek_W_put {G : ek_G} {kd : Nat → Nat} {I : ek_St} {H H1 : Heap} {x j : Nat} {v : Int32} (h : ek_W G kd I H) (hx : ek_at G (kd x) x (upd (I x) j v) H1) (oq : ∀ q : Nat, q ≠ G.2.2 + x → H1[q]? = H[q]?) : ek_W G kd (ek_up I x j v) H1 := by
  refine ⟨h.1, fun y hy => ?_⟩
  by_cases e : y = x
  · subst e
    rw [ek_up_self]
    exact hx
  · rw [ek_up_ne e]
    exact ek_at_kept (h.2 y hy) (oq _ (by omega))
theorem ek_at_int {G : ek_G} {x n : Nat} {f : Nat → Int32} {H : Heap} (h : H[G.2.2 + x]? = some (vp_cell (G.2.1 0) (n, .inl f))) : ek_at G (100 + n) x f H := by
  unfold ek_at
  rw [if_neg (by omega), if_neg (by omega), if_neg (by omega), Nat.add_sub_cancel_left]
  exact h
theorem ek_at_bool {G : ek_G} {x : Nat} {f : Nat → Int32} {H : Heap} (h : H[G.2.2 + x]? = some (vp_cell (G.2.1 1) (12, .inl f))) : ek_at G 50 x f H := by
  unfold ek_at
  rw [if_neg (by omega), if_pos rfl]
  exact h
theorem ek_at_row {G : ek_G} {x : Nat} {f : Nat → Int32} {H : Heap} (h : H[G.2.2 + x]? = some (vp_cell (G.2.1 2) (12, .inr (.inr (.inr (.inr (fun j => ek_o G (f j).toNatClampNeg))))))) : ek_at G 60 x f H := by
  unfold ek_at
  rw [if_neg (by omega), if_neg (by omega), if_pos rfl]
  exact h
theorem ek_at_obj {G : ek_G} {kx x : Nat} {f : Nat → Int32} {H : Heap} {q : vw_C} (h1 : kx < 20) (hc : vwCl[kx - 1]? = some q) (h : t_OB (G.2.2 + x) (G.1.1 (kx - 1)) q.2.2 (G.1.2 (kx - 1)) H (ek_V G kx x f)) : ek_at G kx x f H := by
  unfold ek_at
  rw [if_pos h1]
  exact ⟨q, hc, h⟩
theorem ek_W.nz {G : ek_G} {kd : Nat → Nat} {I : ek_St} {H : Heap} (h : ek_W G kd I H) {x : Nat} (hx : kd x ≠ 0) : x ≠ 0 := fun e => hx (by rw [e]; exact h.1)
/-! locals -/
def ek_S1 (lv : List (Nat × Value)) (i : Nat) (v : Value) (lv' : List (Nat × Value)) : Prop := ∀ (ls : Array Slot) (nL : Nat), lv_has ls nL lv → i < nL → ∃ ls', storeLocals ls i v = some ls' ∧ lv_has ls' nL lv'
def ek_S2 (lv : List (Nat × Value)) (i : Nat) (v : Value) (lv' : List (Nat × Value)) : Prop := ∀ (ls : Array Slot) (nL : Nat), lv_has ls nL lv → i + 1 < nL → ∃ ls', storeLocals ls i v = some ls' ∧ lv_has ls' nL lv'
theorem ek_s1 {lv lv' : List (Nat × Value)} {i : Nat} {v : Value} (hc : v.category = 1) (hl : (i, v) :: lv.filter (fun q => !(q.1 == i) && !(q.1 + 1 == i)) = lv') : ek_S1 lv i v lv' := by
  intro ls nL h hi
  obtain ⟨ls', e1, a, b, d⟩ := lv_store1 h hi hc
  refine ⟨ls', e1, a, b, fun q hq => d q ?_⟩
  subst hl
  rcases List.mem_cons.mp hq with h1 | h1
  · exact List.mem_cons.mpr (Or.inl h1)
  · refine List.mem_cons.mpr (Or.inr ?_)
    rw [List.mem_filter] at h1 ⊢
    refine ⟨h1.1, ?_⟩
    have := h1.2
    simp only [Bool.and_eq_true, Bool.not_eq_true', beq_eq_false_iff_ne, ne_eq] at this
    simp [this.1, this.2]
theorem ek_s1k {lv lv' : List (Nat × Value)} {i j : Nat} {v w : Value} (kp : Nat) (hkp : lv[kp]? = some (j, w)) (hj : j + 1 = i) (hw : w.category = 1) (hc : v.category = 1) (hl : (i, v) :: (j, w) :: lv.filter (fun q => !(q.1 == i) && !(q.1 + 1 == i)) = lv') : ek_S1 lv i v lv' := by
  intro ls nL h hi
  obtain ⟨ls', e1, a, b, d⟩ := lv_store1 h hi hc
  refine ⟨ls', e1, a, b, fun q hq => d q ?_⟩
  subst hl
  rcases List.mem_cons.mp hq with h1 | h1
  · exact List.mem_cons.mpr (Or.inl h1)
  · rcases List.mem_cons.mp h1 with h2 | h2
    · refine List.mem_cons.mpr (Or.inr ?_)
      subst h2
      rw [List.mem_filter]
      refine ⟨List.mem_of_getElem? hkp, ?_⟩
      subst hj
      simp [hw]
    · refine List.mem_cons.mpr (Or.inr ?_)
      rw [List.mem_filter] at h2 ⊢
      refine ⟨h2.1, ?_⟩
      have := h2.2
      simp only [Bool.and_eq_true, Bool.not_eq_true', beq_eq_false_iff_ne, ne_eq] at this
      simp [this.1, this.2]
theorem ek_s2 {lv lv' : List (Nat × Value)} {i : Nat} {v : Value} (hc : v.category = 2) (hl : (i, v) :: lv.filter (fun q => !(q.1 == i) && (!(q.1 == i + 1) && !(q.1 + 1 == i))) = lv') : ek_S2 lv i v lv' := by
  intro ls nL h hi
  obtain ⟨ls', e1, a, b, d⟩ := lv_store2 h hi hc
  refine ⟨ls', e1, a, b, fun q hq => d q ?_⟩
  subst hl
  rcases List.mem_cons.mp hq with h1 | h1
  · exact List.mem_cons.mpr (Or.inl h1)
  · refine List.mem_cons.mpr (Or.inr ?_)
    rw [List.mem_filter] at h1 ⊢
    refine ⟨h1.1, ?_⟩
    have := h1.2
    simp only [Bool.and_eq_true, Bool.not_eq_true', beq_eq_false_iff_ne, ne_eq] at this
    simp [this.1, this.2.1, this.2.2]
theorem ek_s2k {lv lv' : List (Nat × Value)} {i j : Nat} {v w : Value} (kp : Nat) (hkp : lv[kp]? = some (j, w)) (hj : j + 1 = i) (hw : w.category = 1) (hc : v.category = 2) (hl : (i, v) :: (j, w) :: lv.filter (fun q => !(q.1 == i) && (!(q.1 == i + 1) && !(q.1 + 1 == i))) = lv') : ek_S2 lv i v lv' := by
  intro ls nL h hi
  obtain ⟨ls', e1, a, b, d⟩ := lv_store2 h hi hc
  refine ⟨ls', e1, a, b, fun q hq => d q ?_⟩
  subst hl
  rcases List.mem_cons.mp hq with h1 | h1
  · exact List.mem_cons.mpr (Or.inl h1)
  · rcases List.mem_cons.mp h1 with h2 | h2
    · refine List.mem_cons.mpr (Or.inr ?_)
      subst h2
      rw [List.mem_filter]
      refine ⟨List.mem_of_getElem? hkp, ?_⟩
      subst hj
      simp [hw]
      omega
    · refine List.mem_cons.mpr (Or.inr ?_)
      rw [List.mem_filter] at h2 ⊢
      refine ⟨h2.1, ?_⟩
      have := h2.2
      simp only [Bool.and_eq_true, Bool.not_eq_true', beq_eq_false_iff_ne, ne_eq] at this
      simp [this.1, this.2.1, this.2.2]
section EKL
variable {p : Program} {l : Launch} {e : Env} {R : Room} {s : State} {m : MethodId} {args : Array Value} {below : List Frame} {meth : Method} {c : Code} {H : Heap} {locs : List Loc} {cells slots : Nat} {Q : State → Prop}
variable {cc : ByteArray} {pc : Nat} {ls : Array Slot} {rest : List Value} {G : ek_G} {β : Type} {r : β}
theorem ek_istore_n (hexec : p.tables.exec = Jvm.exec) (hb : c.code = cc) {k : Fin 4} {i nL : Nat} {x : Int32} {lv lv' : List (Nat × Value)} (hdg : decode cc pc = .ok (.istore_n k, 1)) (hi : (k : Nat) = i) (h : lv_has ls nL lv) (hn : i < nL) (hl : ek_S1 lv i (.int x) lv')
    (kk : ∀ ls' : Array Slot, lv_has ls' nL lv' → W p l e R s m args below meth c H locs cells slots Q (F0 m (pc + 1) ls' rest)) : W p l e R s m args below meth c H locs cells slots Q (F0 m pc ls (.int x :: rest)) := by
  subst hi
  obtain ⟨ls', e', h'⟩ := hl ls nL h hn
  intro T hT X
  obtain ⟨t, a, b⟩ := kk ls' h' T hT X
  refine ⟨t, ?_, b⟩
  jvm_step X.here [X.here.top, ↓top_set X.here.top, hexec, hb, hdg, e']
  exact a
theorem ek_istore (hexec : p.tables.exec = Jvm.exec) (hb : c.code = cc) {i nL : Nat} {x : Int32} {lv lv' : List (Nat × Value)} (hdg : decode cc pc = .ok (.istore i, 2)) (h : lv_has ls nL lv) (hn : i < nL) (hl : ek_S1 lv i (.int x) lv')
    (kk : ∀ ls' : Array Slot, lv_has ls' nL lv' → W p l e R s m args below meth c H locs cells slots Q (F0 m (pc + 2) ls' rest)) : W p l e R s m args below meth c H locs cells slots Q (F0 m pc ls (.int x :: rest)) := by
  obtain ⟨ls', e', h'⟩ := hl ls nL h hn
  intro T hT X
  obtain ⟨t, a, b⟩ := kk ls' h' T hT X
  refine ⟨t, ?_, b⟩
  jvm_step X.here [X.here.top, ↓top_set X.here.top, hexec, hb, hdg, e']
  exact a
theorem ek_lstore_n (hexec : p.tables.exec = Jvm.exec) (hb : c.code = cc) {k : Fin 4} {i nL : Nat} {x : Int64} {lv lv' : List (Nat × Value)} (hdg : decode cc pc = .ok (.lstore_n k, 1)) (hi : (k : Nat) = i) (h : lv_has ls nL lv) (hn : i + 1 < nL) (hl : ek_S2 lv i (.long x) lv')
    (kk : ∀ ls' : Array Slot, lv_has ls' nL lv' → W p l e R s m args below meth c H locs cells slots Q (F0 m (pc + 1) ls' rest)) : W p l e R s m args below meth c H locs cells slots Q (F0 m pc ls (.long x :: rest)) := by
  subst hi
  obtain ⟨ls', e', h'⟩ := hl ls nL h hn
  intro T hT X
  obtain ⟨t, a, b⟩ := kk ls' h' T hT X
  refine ⟨t, ?_, b⟩
  jvm_step X.here [X.here.top, ↓top_set X.here.top, hexec, hb, hdg, e']
  exact a
theorem ek_lstore (hexec : p.tables.exec = Jvm.exec) (hb : c.code = cc) {i nL : Nat} {x : Int64} {lv lv' : List (Nat × Value)} (hdg : decode cc pc = .ok (.lstore i, 2)) (h : lv_has ls nL lv) (hn : i + 1 < nL) (hl : ek_S2 lv i (.long x) lv')
    (kk : ∀ ls' : Array Slot, lv_has ls' nL lv' → W p l e R s m args below meth c H locs cells slots Q (F0 m (pc + 2) ls' rest)) : W p l e R s m args below meth c H locs cells slots Q (F0 m pc ls (.long x :: rest)) := by
  obtain ⟨ls', e', h'⟩ := hl ls nL h hn
  intro T hT X
  obtain ⟨t, a, b⟩ := kk ls' h' T hT X
  refine ⟨t, ?_, b⟩
  jvm_step X.here [X.here.top, ↓top_set X.here.top, hexec, hb, hdg, e']
  exact a
theorem ek_iincr (hexec : p.tables.exec = Jvm.exec) (hb : c.code = cc) {i nL : Nat} (k : Nat) {n : Int} {x v : Int32} {lv lv' : List (Nat × Value)} (hdg : decode cc pc = .ok (.iinc i n, 3)) (h : lv_has ls nL lv) (hk : lv[k]? = some (i, .int x)) (hv : x + Int32.ofInt n = v) (hn : i < nL) (hl : ek_S1 lv i (.int v) lv')
    (kk : ∀ ls' : Array Slot, lv_has ls' nL lv' → W p l e R s m args below meth c H locs cells slots Q (F0 m (pc + 3) ls' rest)) : W p l e R s m args below meth c H locs cells slots Q (F0 m pc ls rest) := by
  subst hv
  have hg := lv_at h k hk
  obtain ⟨ls', e', h'⟩ := hl ls nL h hn
  intro T hT X
  obtain ⟨t, a, b⟩ := kk ls' h' T hT X
  refine ⟨t, ?_, b⟩
  jvm_step X.here [X.here.top, ↓top_set X.here.top, hexec, hb, hdg, hg, e']
  exact a
theorem ek_iinc (hexec : p.tables.exec = Jvm.exec) (hb : c.code = cc) {i nL : Nat} (k : Nat) {n : Int} {x v : Int32} {lv : List (Nat × Value)} (lv' : Int32 → List (Nat × Value)) (hdg : decode cc pc = .ok (.iinc i n, 3)) (h : lv_has ls nL lv) (hk : lv[k]? = some (i, .int x)) (hv : x + Int32.ofInt n = v) {K : Int32 → Option β} (hf : ek_let v K = some r) (hn : i < nL) (hl : ∀ y : Int32, ek_S1 lv i (.int y) (lv' y))
    (kk : ∀ (y : Int32) (ls' : Array Slot), K y = some r → lv_has ls' nL (lv' y) → W p l e R s m args below meth c H locs cells slots Q (F0 m (pc + 3) ls' rest)) : W p l e R s m args below meth c H locs cells slots Q (F0 m pc ls rest) :=
  ek_iincr hexec hb k hdg h hk hv hn (hl v) (fun ls' h' => kk v ls' hf h')
theorem ek_astore_n (hexec : p.tables.exec = Jvm.exec) (hb : c.code = cc) {k : Fin 4} {i nL x : Nat} {lv lv' : List (Nat × Value)} (hdg : decode cc pc = .ok (.astore_n k, 1)) (hi : (k : Nat) = i) (h : lv_has ls nL lv) (hn : i < nL) (hl : ek_S1 lv i (ek_r G x) lv')
    (kk : ∀ ls' : Array Slot, lv_has ls' nL lv' → W p l e R s m args below meth c H locs cells slots Q (F0 m (pc + 1) ls' rest)) : W p l e R s m args below meth c H locs cells slots Q (F0 m pc ls (ek_r G x :: rest)) := by
  subst hi
  obtain ⟨ls', e', h'⟩ := hl ls nL h hn
  intro T hT X
  obtain ⟨t, a, b⟩ := kk ls' h' T hT X
  refine ⟨t, ?_, b⟩
  by_cases hx : x = 0
  · subst hx
    rw [ek_r_null] at e' ⊢
    jvm_step X.here [X.here.top, ↓top_set X.here.top, hexec, hb, hdg, e', Value.isRef]
    exact a
  · rw [ek_r_ref hx] at e' ⊢
    jvm_step X.here [X.here.top, ↓top_set X.here.top, hexec, hb, hdg, e', Value.isRef]
    exact a
theorem ek_astore (hexec : p.tables.exec = Jvm.exec) (hb : c.code = cc) {i nL x : Nat} {lv lv' : List (Nat × Value)} (hdg : decode cc pc = .ok (.astore i, 2)) (h : lv_has ls nL lv) (hn : i < nL) (hl : ek_S1 lv i (ek_r G x) lv')
    (kk : ∀ ls' : Array Slot, lv_has ls' nL lv' → W p l e R s m args below meth c H locs cells slots Q (F0 m (pc + 2) ls' rest)) : W p l e R s m args below meth c H locs cells slots Q (F0 m pc ls (ek_r G x :: rest)) := by
  obtain ⟨ls', e', h'⟩ := hl ls nL h hn
  intro T hT X
  obtain ⟨t, a, b⟩ := kk ls' h' T hT X
  refine ⟨t, ?_, b⟩
  by_cases hx : x = 0
  · subst hx
    rw [ek_r_null] at e' ⊢
    jvm_step X.here [X.here.top, ↓top_set X.here.top, hexec, hb, hdg, e', Value.isRef]
    exact a
  · rw [ek_r_ref hx] at e' ⊢
    jvm_step X.here [X.here.top, ↓top_set X.here.top, hexec, hb, hdg, e', Value.isRef]
    exact a
theorem ek_aload_n (hexec : p.tables.exec = Jvm.exec) (hb : c.code = cc) {k : Fin 4} {i : Nat} {x : Nat} (hdg : decode cc pc = .ok (.aload_n k, 1)) (hi : (k : Nat) = i) (hl : ls[i]? = some (.val (ek_r G x)))
    (k : W p l e R s m args below meth c H locs cells slots Q (F0 m (pc + 1) ls (ek_r G x :: rest))) : W p l e R s m args below meth c H locs cells slots Q (F0 m pc ls rest) := by
  by_cases hx : x = 0
  · subst hx
    rw [ek_r_null] at hl k
    exact lv_aload_nN hexec hb hdg hi hl k
  · rw [ek_r_ref hx] at hl k
    exact lv_aload_n hexec hb hdg hi hl k
theorem ek_aload (hexec : p.tables.exec = Jvm.exec) (hb : c.code = cc) {i : Nat} {x : Nat} (hdg : decode cc pc = .ok (.aload i, 2)) (hl : ls[i]? = some (.val (ek_r G x)))
    (k : W p l e R s m args below meth c H locs cells slots Q (F0 m (pc + 2) ls (ek_r G x :: rest))) : W p l e R s m args below meth c H locs cells slots Q (F0 m pc ls rest) := by
  by_cases hx : x = 0
  · subst hx
    rw [ek_r_null] at hl k
    exact lv_aloadN hexec hb hdg hl k
  · rw [ek_r_ref hx] at hl k
    exact lv_aload hexec hb hdg hl k
theorem ek_null (hexec : p.tables.exec = Jvm.exec) (hb : c.code = cc) (hdg : decode cc pc = .ok (.aconst_null, 1)) (k : W p l e R s m args below meth c H locs cells slots Q (F0 m (pc + 1) ls (ek_r G 0 :: rest))) : W p l e R s m args below meth c H locs cells slots Q (F0 m pc ls rest) := by
  rw [ek_r_null] at k
  exact lv_null hexec hb hdg k
theorem ek_ifnull (hexec : p.tables.exec = Jvm.exec) (hb : c.code = cc) {x : Nat} {off : Int} {tgt : Nat} (hdg : decode cc pc = .ok (.ifnull off, 3)) (ht : (pc : Int) + off = (tgt : Int)) (kt : x = 0 → W p l e R s m args below meth c H locs cells slots Q (F0 m tgt ls rest)) (kf : ¬ x = 0 → W p l e R s m args below meth c H locs cells slots Q (F0 m (pc + 3) ls rest)) : W p l e R s m args below meth c H locs cells slots Q (F0 m pc ls (ek_r G x :: rest)) := by
  by_cases hx : x = 0
  · have := kt hx
    subst hx
    rw [ek_r_null]
    exact lv_ifnullN hexec hb hdg ht this
  · rw [ek_r_ref hx]
    exact lv_ifnull hexec hb hdg (kf hx)
theorem ek_ifnonnull (hexec : p.tables.exec = Jvm.exec) (hb : c.code = cc) {x : Nat} {off : Int} {tgt : Nat} (hdg : decode cc pc = .ok (.ifnonnull off, 3)) (ht : (pc : Int) + off = (tgt : Int)) (kt : ¬ x = 0 → W p l e R s m args below meth c H locs cells slots Q (F0 m tgt ls rest)) (kf : x = 0 → W p l e R s m args below meth c H locs cells slots Q (F0 m (pc + 3) ls rest)) : W p l e R s m args below meth c H locs cells slots Q (F0 m pc ls (ek_r G x :: rest)) := by
  by_cases hx : x = 0
  · have := kf hx
    subst hx
    rw [ek_r_null]
    exact lv_ifnonnullN hexec hb hdg this
  · rw [ek_r_ref hx]
    exact lv_ifnonnull hexec hb hdg ht (kt hx)
theorem ek_o_inj {x y : Nat} (h : ek_o G x = ek_o G y) : x = y := by
  unfold ek_o at h
  split at h <;> split at h
  · omega
  · cases h
  · cases h
  · have := Option.some.inj h
    omega
theorem ek_acmp_eq (hexec : p.tables.exec = Jvm.exec) (hb : c.code = cc) {x y : Nat} {off : Int} {tgt : Nat} (hdg : decode cc pc = .ok (.if_acmp .eq off, 3)) (ht : (pc : Int) + off = (tgt : Int)) (kt : x = y → W p l e R s m args below meth c H locs cells slots Q (F0 m tgt ls rest)) (kf : ¬ x = y → W p l e R s m args below meth c H locs cells slots Q (F0 m (pc + 3) ls rest)) : W p l e R s m args below meth c H locs cells slots Q (F0 m pc ls (ek_r G y :: ek_r G x :: rest)) := by
  rw [← ek_o_r, ← ek_o_r]
  exact lv_acmp_eq hexec hb hdg ht (fun h => kt (ek_o_inj h)) (fun h => kf (fun q => h (by rw [q])))
theorem ek_acmp_ne (hexec : p.tables.exec = Jvm.exec) (hb : c.code = cc) {x y : Nat} {off : Int} {tgt : Nat} (hdg : decode cc pc = .ok (.if_acmp .ne off, 3)) (ht : (pc : Int) + off = (tgt : Int)) (kt : ¬ x = y → W p l e R s m args below meth c H locs cells slots Q (F0 m tgt ls rest)) (kf : x = y → W p l e R s m args below meth c H locs cells slots Q (F0 m (pc + 3) ls rest)) : W p l e R s m args below meth c H locs cells slots Q (F0 m pc ls (ek_r G y :: ek_r G x :: rest)) := by
  rw [← ek_o_r, ← ek_o_r]
  exact lv_acmp_ne hexec hb hdg ht (fun h => kt (fun q => h (by rw [q]))) (fun h => kf (ek_o_inj h))
/-! a computed top gets a name -/
theorem ek_ti {x : Int32} {K : Int32 → Option β} (hf : ek_let x K = some r) (k : ∀ y : Int32, K y = some r → W p l e R s m args below meth c H locs cells slots Q (F0 m pc ls (.int y :: rest))) : W p l e R s m args below meth c H locs cells slots Q (F0 m pc ls (.int x :: rest)) := k x hf
theorem ek_tl {x : Int64} {K : Int64 → Option β} (hf : ek_let x K = some r) (k : ∀ y : Int64, K y = some r → W p l e R s m args below meth c H locs cells slots Q (F0 m pc ls (.long y :: rest))) : W p l e R s m args below meth c H locs cells slots Q (F0 m pc ls (.long x :: rest)) := k x hf
theorem ek_tr {x : Nat} {K : Nat → Option β} (hf : ek_let x K = some r) (k : ∀ y : Nat, K y = some r → W p l e R s m args below meth c H locs cells slots Q (F0 m pc ls (ek_r G y :: rest))) : W p l e R s m args below meth c H locs cells slots Q (F0 m pc ls (ek_r G x :: rest)) := k x hf
theorem ek_idiv (hexec : p.tables.exec = Jvm.exec) (hb : c.code = cc) {x y : Int32} {K : Option β} (hf : ek_ck (¬ y = 0) K = some r) (hdg : decode cc pc = .ok (.idiv, 1)) (k : K = some r → W p l e R s m args below meth c H locs cells slots Q (F0 m (pc + 1) ls (.int (x / y) :: rest))) : W p l e R s m args below meth c H locs cells slots Q (F0 m pc ls (.int y :: .int x :: rest)) := lv_idiv hexec hb hdg (ek_ck_s hf).1 (k (ek_ck_s hf).2)
theorem ek_irem (hexec : p.tables.exec = Jvm.exec) (hb : c.code = cc) {x y : Int32} {K : Option β} (hf : ek_ck (¬ y = 0) K = some r) (hdg : decode cc pc = .ok (.irem, 1)) (k : K = some r → W p l e R s m args below meth c H locs cells slots Q (F0 m (pc + 1) ls (.int (x - x / y * y) :: rest))) : W p l e R s m args below meth c H locs cells slots Q (F0 m pc ls (.int y :: .int x :: rest)) := lv_irem hexec hb hdg (ek_ck_s hf).1 (k (ek_ck_s hf).2)
theorem ek_ldiv (hexec : p.tables.exec = Jvm.exec) (hb : c.code = cc) {x y : Int64} {K : Option β} (hf : ek_ck (¬ y = 0) K = some r) (hdg : decode cc pc = .ok (.ldiv, 1)) (k : K = some r → W p l e R s m args below meth c H locs cells slots Q (F0 m (pc + 1) ls (.long (x / y) :: rest))) : W p l e R s m args below meth c H locs cells slots Q (F0 m pc ls (.long y :: .long x :: rest)) := lv_ldiv hexec hb hdg (ek_ck_s hf).1 (k (ek_ck_s hf).2)
theorem ek_lrem (hexec : p.tables.exec = Jvm.exec) (hb : c.code = cc) {x y : Int64} {K : Option β} (hf : ek_ck (¬ y = 0) K = some r) (hdg : decode cc pc = .ok (.lrem, 1)) (k : K = some r → W p l e R s m args below meth c H locs cells slots Q (F0 m (pc + 1) ls (.long (x - x / y * y) :: rest))) : W p l e R s m args below meth c H locs cells slots Q (F0 m pc ls (.long y :: .long x :: rest)) := lv_lrem hexec hb hdg (ek_ck_s hf).1 (k (ek_ck_s hf).2)
end EKL
/-! the heap -/
theorem ek_S_A {G : ek_G} {kd : Nat → Nat} {A : Nat → Prop} (hA : ∀ q, ek_A G kd q → A q) {x : Nat} (h : kd x ≠ 0) : A (G.2.2 + x) := hA _ ⟨x, h, rfl⟩
section EKH
variable {p : Program} {l : Launch} {e : Env} {R : Room} {s : State} {m : MethodId} {args : Array Value} {below : List Frame} {meth : Method} {c : Code} {H : Heap} {locs : List Loc} {cells slots : Nat} {Q : State → Prop}
variable {cc : ByteArray} {pc : Nat} {ls : Array Slot} {rest : List Value} {G : ek_G} {kd : Nat → Nat} {I : ek_St} {H0 : Heap} {A : Nat → Prop} {β : Type} {r : β}
/-- getfield, of whatever value; the link as the kit's two rows have it -/
theorem ek_getV (hexec : p.tables.exec = Jvm.exec) (hb : c.code = cc) {own C : String} {T : u_T} {N index : Nat} (kx : Nat) {Ts : List Cond} (hts : ∀ w ∈ Ts, w.before args s = true) (hin : ∀ w ∈ u_ws C T N, w ∈ Ts) (hown : s.vm.findClass own = some m.cls) (hK : ek_K G s) (hw : ek_W G kd I H) (hc : vwCl[kx - 1]? = some (C, T, N)) (h0 : kx ≠ 0) (h1 : kx < 20) (k : Nat) (hk : k < N) (hlink : (Cond.fieldLink own index (T k).1 (T k).2.1 (T k).2.2.1).before args s = true) {x : Nat} (hx : kd x = kx) (hdg : decode cc pc = .ok (.getfield index, 3))
    (kk : W p l e R s m args below meth c H locs cells slots Q (F0 m (pc + 3) ls (ek_V G kx x (I x) k :: rest))) : W p l e R s m args below meth c H locs cells slots Q (F0 m pc ls (ek_r G x :: rest)) := by
  rw [ek_r_ref (hw.nz (by rw [hx]; exact h0))]
  obtain ⟨cell, q1, q2, q3, q4⟩ := ek_W_obj hw hx h0 h1 hc
  obtain ⟨hS, hfc, kC, hkC, hkind⟩ := hK.1.1 (kx - 1) _ hc
  obtain ⟨cf, kf, fi, f, hi, hsl⟩ := hS k hk
  refine W.getf hexec hb hown hlink hi (u_facts hfc hkC (u_lays hts hin hk) hi).1 q1 (by rw [q3]; exact fun h => by cases h) (v := ek_V G kx x (I x) k) ?_ rfl rfl hdg kk
  rw [hsl]
  exact q4 k hk
theorem ek_getVN (hexec : p.tables.exec = Jvm.exec) (hb : c.code = cc) {own C host : String} {T : u_T} {N index : Nat} (kx : Nat) {Ts : List Cond} (hts : ∀ w ∈ Ts, w.before args s = true) (hin : ∀ w ∈ u_ws C T N, w ∈ Ts) (hown : s.vm.findClass own = some m.cls) (hK : ek_K G s) (hw : ek_W G kd I H) (hc : vwCl[kx - 1]? = some (C, T, N)) (h0 : kx ≠ 0) (h1 : kx < 20) (k : Nat) (hk : k < N) (hlink : (Cond.fieldLinkNest own index (T k).1 (T k).2.1 (T k).2.2.1 host).before args s = true) {x : Nat} (hx : kd x = kx) (hdg : decode cc pc = .ok (.getfield index, 3))
    (kk : W p l e R s m args below meth c H locs cells slots Q (F0 m (pc + 3) ls (ek_V G kx x (I x) k :: rest))) : W p l e R s m args below meth c H locs cells slots Q (F0 m pc ls (ek_r G x :: rest)) := by
  rw [ek_r_ref (hw.nz (by rw [hx]; exact h0))]
  obtain ⟨cell, q1, q2, q3, q4⟩ := ek_W_obj hw hx h0 h1 hc
  obtain ⟨hS, hfc, kC, hkC, hkind⟩ := hK.1.1 (kx - 1) _ hc
  obtain ⟨cf, kf, fi, f, hi, hsl⟩ := hS k hk
  refine va_Wgetf hexec hb hown hlink hi (u_facts hfc hkC (u_lays hts hin hk) hi).1 q1 (by rw [q3]; exact fun h => by cases h) (v := ek_V G kx x (I x) k) ?_ rfl rfl hdg kk
  rw [hsl]
  exact q4 k hk
theorem ek_V_int {kx x k : Nat} {f : Nat → Int32} (h : ek_ro kx k = 0) : ek_V G kx x f k = .int (f k) := by unfold ek_V; rw [if_pos h]
theorem ek_V_ref {kx x k n : Nat} {f : Nat → Int32} (h : ek_ro kx k = n + 1) : ek_V G kx x f k = ek_r G (x + (n + 1)) := by
  unfold ek_V
  rw [if_neg (by omega), ek_r_ref (by omega), h]
theorem ek_geti (hexec : p.tables.exec = Jvm.exec) (hb : c.code = cc) {own C : String} {T : u_T} {N index : Nat} (kx : Nat) {Ts : List Cond} (hts : ∀ w ∈ Ts, w.before args s = true) (hin : ∀ w ∈ u_ws C T N, w ∈ Ts) (hown : s.vm.findClass own = some m.cls) (hK : ek_K G s) (hw : ek_W G kd I H) (hc : vwCl[kx - 1]? = some (C, T, N)) (h0 : kx ≠ 0) (h1 : kx < 20) (k : Nat) (hk : k < N) (hro : ek_ro kx k = 0) (hlink : (Cond.fieldLink own index (T k).1 (T k).2.1 (T k).2.2.1).before args s = true) {x : Nat} {K : Option β} (hf : ek_ck (kd x = kx) K = some r) (hdg : decode cc pc = .ok (.getfield index, 3))
    (kk : K = some r → W p l e R s m args below meth c H locs cells slots Q (F0 m (pc + 3) ls (.int (I x k) :: rest))) : W p l e R s m args below meth c H locs cells slots Q (F0 m pc ls (ek_r G x :: rest)) := by
  obtain ⟨hx, hf⟩ := ek_ck_s hf
  refine ek_getV hexec hb kx hts hin hown hK hw hc h0 h1 k hk hlink hx hdg ?_
  rw [ek_V_int hro]
  exact kk hf
theorem ek_getr (hexec : p.tables.exec = Jvm.exec) (hb : c.code = cc) {own C : String} {T : u_T} {N index : Nat} (kx : Nat) {Ts : List Cond} (hts : ∀ w ∈ Ts, w.before args s = true) (hin : ∀ w ∈ u_ws C T N, w ∈ Ts) (hown : s.vm.findClass own = some m.cls) (hK : ek_K G s) (hw : ek_W G kd I H) (hc : vwCl[kx - 1]? = some (C, T, N)) (h0 : kx ≠ 0) (h1 : kx < 20) (k : Nat) (hk : k < N) {n n' : Nat} (hn : n' = n + 1) (hro : ek_ro kx k = n') (hlink : (Cond.fieldLink own index (T k).1 (T k).2.1 (T k).2.2.1).before args s = true) {x : Nat} {K : Option β} (hf : ek_ck (kd x = kx) K = some r) (hdg : decode cc pc = .ok (.getfield index, 3))
    (kk : K = some r → W p l e R s m args below meth c H locs cells slots Q (F0 m (pc + 3) ls (ek_r G (x + n') :: rest))) : W p l e R s m args below meth c H locs cells slots Q (F0 m pc ls (ek_r G x :: rest)) := by
  obtain ⟨hx, hf⟩ := ek_ck_s hf
  refine ek_getV hexec hb kx hts hin hown hK hw hc h0 h1 k hk hlink hx hdg ?_
  subst hn
  rw [ek_V_ref hro]
  exact kk hf
theorem ek_getiN (hexec : p.tables.exec = Jvm.exec) (hb : c.code = cc) {own C host : String} {T : u_T} {N index : Nat} (kx : Nat) {Ts : List Cond} (hts : ∀ w ∈ Ts, w.before args s = true) (hin : ∀ w ∈ u_ws C T N, w ∈ Ts) (hown : s.vm.findClass own = some m.cls) (hK : ek_K G s) (hw : ek_W G kd I H) (hc : vwCl[kx - 1]? = some (C, T, N)) (h0 : kx ≠ 0) (h1 : kx < 20) (k : Nat) (hk : k < N) (hro : ek_ro kx k = 0) (hlink : (Cond.fieldLinkNest own index (T k).1 (T k).2.1 (T k).2.2.1 host).before args s = true) {x : Nat} {K : Option β} (hf : ek_ck (kd x = kx) K = some r) (hdg : decode cc pc = .ok (.getfield index, 3))
    (kk : K = some r → W p l e R s m args below meth c H locs cells slots Q (F0 m (pc + 3) ls (.int (I x k) :: rest))) : W p l e R s m args below meth c H locs cells slots Q (F0 m pc ls (ek_r G x :: rest)) := by
  obtain ⟨hx, hf⟩ := ek_ck_s hf
  refine ek_getVN hexec hb kx hts hin hown hK hw hc h0 h1 k hk hlink hx hdg ?_
  rw [ek_V_int hro]
  exact kk hf
theorem ek_getrN (hexec : p.tables.exec = Jvm.exec) (hb : c.code = cc) {own C host : String} {T : u_T} {N index : Nat} (kx : Nat) {Ts : List Cond} (hts : ∀ w ∈ Ts, w.before args s = true) (hin : ∀ w ∈ u_ws C T N, w ∈ Ts) (hown : s.vm.findClass own = some m.cls) (hK : ek_K G s) (hw : ek_W G kd I H) (hc : vwCl[kx - 1]? = some (C, T, N)) (h0 : kx ≠ 0) (h1 : kx < 20) (k : Nat) (hk : k < N) {n n' : Nat} (hn : n' = n + 1) (hro : ek_ro kx k = n') (hlink : (Cond.fieldLinkNest own index (T k).1 (T k).2.1 (T k).2.2.1 host).before args s = true) {x : Nat} {K : Option β} (hf : ek_ck (kd x = kx) K = some r) (hdg : decode cc pc = .ok (.getfield index, 3))
    (kk : K = some r → W p l e R s m args below meth c H locs cells slots Q (F0 m (pc + 3) ls (ek_r G (x + n') :: rest))) : W p l e R s m args below meth c H locs cells slots Q (F0 m pc ls (ek_r G x :: rest)) := by
  obtain ⟨hx, hf⟩ := ek_ck_s hf
  refine ek_getVN hexec hb kx hts hin hown hK hw hc h0 h1 k hk hlink hx hdg ?_
  subst hn
  rw [ek_V_ref hro]
  exact kk hf
theorem ek_V_upd {kx x k : Nat} {f : Nat → Int32} {v : Int32} (h : ek_ro kx k = 0) : updV (ek_V G kx x f) k (.int v) = ek_V G kx x (upd f k v) := by
  funext j
  unfold updV
  by_cases hj : j = k
  · subst hj
    rw [if_pos rfl, ek_V_int h]
    simp [upd]
  · rw [if_neg hj]
    unfold ek_V
    simp [upd, hj]
theorem ek_apart {own C : String} {T : u_T} {N ci : Nat} {Ts : List Cond} (hts : ∀ w ∈ Ts, w.before args s = true) (hin : ∀ w ∈ u_ws C T N, w ∈ Ts) (ty : Nat → FieldType) (hty : ∀ k, k < N → parseFieldDescriptor (T k).2.2.1 = some (ty k)) (hnm : ∀ a, a < N → ∀ b, b < N → a ≠ b → (T a).2.1 ≠ (T b).2.1) (hK : ek_K G s) (hc : vwCl[ci]? = some (C, T, N)) : ∀ x y, x < N → y < N → x ≠ y → (G.1.2 ci) x ≠ (G.1.2 ci) y := va_apart (own := own) hts hin ty hty hnm hK.1 hc
theorem ek_puti (hexec : p.tables.exec = Jvm.exec) (hb : c.code = cc) {own C : String} {T : u_T} {N index : Nat} (kx : Nat) {Ts : List Cond} (hts : ∀ w ∈ Ts, w.before args s = true) (hin : ∀ w ∈ u_ws C T N, w ∈ Ts) (ty0 : Nat → FieldType) (hty : ∀ k, k < N → parseFieldDescriptor (T k).2.2.1 = some (ty0 k)) (hnm : ∀ a, a < N → ∀ b, b < N → a ≠ b → (T a).2.1 ≠ (T b).2.1) (hown : s.vm.findClass own = some m.cls) (hK : ek_K G s) (hw : ek_W G kd I H) (hS0 : va_S A H0 H locs) (hA : ∀ q, ek_A G kd q → A q) (hc : vwCl[kx - 1]? = some (C, T, N)) (h0 : kx ≠ 0) (h1 : kx < 20) (k : Nat) (hk : k < N) (hro : ek_ro kx k = 0) (hlink : (Cond.fieldLink own index (T k).1 (T k).2.1 (T k).2.2.1).before args s = true) (hfin : (T k).2.2.2 = false) {v : Int32} (hn : narrow (ty0 k) (.int v) = .int v) (hfit : fits (ty0 k) (.int v) = true) {x : Nat} {K : ek_St → Option β} (hf : ek_ck (kd x = kx) (ek_let (ek_up I x k v) K) = some r)
    (hdg : decode cc pc = .ok (.putfield index, 3)) (kk : ∀ (I2 : ek_St) (H1 : Heap) (locs1 : List Loc), K I2 = some r → ek_W G kd I2 H1 → va_S A H0 H1 locs1 → W p l e R s m args below meth c H1 locs1 cells slots Q (F0 m (pc + 3) ls rest)) : W p l e R s m args below meth c H locs cells slots Q (F0 m pc ls (.int v :: ek_r G x :: rest)) := by
  obtain ⟨hx, hf⟩ := ek_ck_s hf
  have hx0 : kd x ≠ 0 := by rw [hx]; exact h0
  rw [ek_r_ref (hw.nz hx0)]
  have hap := ek_apart (own := own) hts hin ty0 hty hnm hK hc
  obtain ⟨cell, q1, q2, q3, q4⟩ := ek_W_obj hw hx h0 h1 hc
  obtain ⟨hS, hfc, kC, hkC, hkind⟩ := hK.1.1 (kx - 1) _ hc
  obtain ⟨cf, kf, fi, f, hi, hsl⟩ := hS k hk
  have hlay := hts _ (hin _ (u_in_lay hk))
  unfold u_lay at hlay
  rw [if_neg (by rw [hfin]; decide)] at hlay
  have hst := (u_facts hfc hkC (u_lays hts hin hk) hi).1
  have h6 := u_store hfc hkC hkind hlay hi (hty k hk) hn hfit
  refine W.putK hexec hb (f := f) ⟨hown, hlink, ⟨_, _, _, hi⟩, hst⟩ (by rw [q2]; exact h6) q1 q3 (by rw [hsl]; exact k2_hasslot (q4 k hk)) rfl rfl hdg fun H' e1 e2 e3 => ?_
  rw [hsl] at e1 ⊢
  refine kk (ek_up I x k v) H' _ hf (ek_W_put hw ?_ e3) (hS0.put e2 e3 (ek_S_A hA hx0))
  rw [hx]
  exact ek_at_obj h1 hc (t_OB.to (V := updV (ek_V G kx x (I x)) k (.int v)) ⟨_, e1, q2, q3, t_set q4 hap hk (.int v)⟩ (fun j _ => by rw [ek_V_upd hro]))
theorem ek_putiN (hexec : p.tables.exec = Jvm.exec) (hb : c.code = cc) {own C host : String} {T : u_T} {N index : Nat} (kx : Nat) {Ts : List Cond} (hts : ∀ w ∈ Ts, w.before args s = true) (hin : ∀ w ∈ u_ws C T N, w ∈ Ts) (ty0 : Nat → FieldType) (hty : ∀ k, k < N → parseFieldDescriptor (T k).2.2.1 = some (ty0 k)) (hnm : ∀ a, a < N → ∀ b, b < N → a ≠ b → (T a).2.1 ≠ (T b).2.1) (hown : s.vm.findClass own = some m.cls) (hK : ek_K G s) (hw : ek_W G kd I H) (hS0 : va_S A H0 H locs) (hA : ∀ q, ek_A G kd q → A q) (hc : vwCl[kx - 1]? = some (C, T, N)) (h0 : kx ≠ 0) (h1 : kx < 20) (k : Nat) (hk : k < N) (hro : ek_ro kx k = 0) (hlink : (Cond.fieldLinkNest own index (T k).1 (T k).2.1 (T k).2.2.1 host).before args s = true) (hfin : (T k).2.2.2 = false) {v : Int32} (hn : narrow (ty0 k) (.int v) = .int v) (hfit : fits (ty0 k) (.int v) = true) {x : Nat} {K : ek_St → Option β} (hf : ek_ck (kd x = kx) (ek_let (ek_up I x k v) K) = some r)
    (hdg : decode cc pc = .ok (.putfield index, 3)) (kk : ∀ (I2 : ek_St) (H1 : Heap) (locs1 : List Loc), K I2 = some r → ek_W G kd I2 H1 → va_S A H0 H1 locs1 → W p l e R s m args below meth c H1 locs1 cells slots Q (F0 m (pc + 3) ls rest)) : W p l e R s m args below meth c H locs cells slots Q (F0 m pc ls (.int v :: ek_r G x :: rest)) := by
  obtain ⟨hx, hf⟩ := ek_ck_s hf
  have hx0 : kd x ≠ 0 := by rw [hx]; exact h0
  rw [ek_r_ref (hw.nz hx0)]
  have hap := ek_apart (own := own) hts hin ty0 hty hnm hK hc
  obtain ⟨cell, q1, q2, q3, q4⟩ := ek_W_obj hw hx h0 h1 hc
  obtain ⟨hS, hfc, kC, hkC, hkind⟩ := hK.1.1 (kx - 1) _ hc
  obtain ⟨cf, kf, fi, f, hi, hsl⟩ := hS k hk
  have hlay := hts _ (hin _ (u_in_lay hk))
  unfold u_lay at hlay
  rw [if_neg (by rw [hfin]; decide)] at hlay
  have hst := (u_facts hfc hkC (u_lays hts hin hk) hi).1
  have h6 := u_store hfc hkC hkind hlay hi (hty k hk) hn hfit
  refine va_WputK hexec hb (f := f) hown hlink hi hst (by rw [q2]; exact h6) q1 q3 (by rw [hsl]; exact k2_hasslot (q4 k hk)) rfl rfl hdg fun H' e1 e2 e3 => ?_
  rw [hsl] at e1 ⊢
  refine kk (ek_up I x k v) H' _ hf (ek_W_put hw ?_ e3) (hS0.put e2 e3 (ek_S_A hA hx0))
  rw [hx]
  exact ek_at_obj h1 hc (t_OB.to (V := updV (ek_V G kx x (I x)) k (.int v)) ⟨_, e1, q2, q3, t_set q4 hap hk (.int v)⟩ (fun j _ => by rw [ek_V_upd hro]))
/-! arrays -/
theorem ek_iald (hexec : p.tables.exec = Jvm.exec) (hb : c.code = cc) (hK : ek_K G s) (hw : ek_W G kd I H) (n : Nat) {k : Nat} (hkn : k = 100 + n) {i : Int32} {x : Nat} {K : Option β} (hf : ek_ck (kd x = k) (ek_ck (ek_in i n) K) = some r) (hdg : decode cc pc = .ok (.iaload, 1))
    (kk : K = some r → W p l e R s m args below meth c H locs cells slots Q (F0 m (pc + 1) ls (.int (I x i.toNatClampNeg) :: rest))) : W p l e R s m args below meth c H locs cells slots Q (F0 m pc ls (.int i :: ek_r G x :: rest)) := by
  subst hkn
  obtain ⟨hx, hf⟩ := ek_ck_s hf
  obtain ⟨hin, hf⟩ := ek_ck_s hf
  rw [ek_r_ref (hw.nz (by rw [hx]; omega))]
  have hlt : i.toNatClampNeg < n := Nat.not_le.mp fun q => hin (Or.inr q)
  exact W.iald (v := .int (I x i.toNatClampNeg)) hexec hb (ek_W_int hw hx) ((hK.1.2 0 _ rfl).1 n (fun j => .int (I x j))) (fun q => by cases q) (by show ¬ (i < 0 ∨ (arrV _ _ _).slots.size ≤ _); rw [arrV_size]; exact hin) (by show (arrV _ _ _).slots[_]? = _; rw [arrV_read _ _ hlt]) rfl rfl hdg (kk hf)
theorem ek_zald (hexec : p.tables.exec = Jvm.exec) (hb : c.code = cc) (hK : ek_K G s) (hw : ek_W G kd I H) {i : Int32} {x : Nat} {K : Option β} (hf : ek_ck (kd x = 50) (ek_ck (ek_in i 12) K) = some r) (hdg : decode cc pc = .ok (.baload, 1))
    (kk : K = some r → W p l e R s m args below meth c H locs cells slots Q (F0 m (pc + 1) ls (.int (I x i.toNatClampNeg) :: rest))) : W p l e R s m args below meth c H locs cells slots Q (F0 m pc ls (.int i :: ek_r G x :: rest)) := by
  obtain ⟨hx, hf⟩ := ek_ck_s hf
  obtain ⟨hin, hf⟩ := ek_ck_s hf
  rw [ek_r_ref (hw.nz (by rw [hx]; omega))]
  have hlt : i.toNatClampNeg < 12 := Nat.not_le.mp fun q => hin (Or.inr q)
  exact W.zald (v := .int (I x i.toNatClampNeg)) hexec hb (ek_W_bool hw hx) ((hK.1.2 1 _ rfl).1 12 (fun j => .int (I x j))) (fun q => by cases q) (by show ¬ (i < 0 ∨ (arrV _ _ _).slots.size ≤ _); rw [arrV_size]; exact hin) (by show (arrV _ _ _).slots[_]? = _; rw [arrV_read _ _ hlt]) rfl rfl hdg (kk hf)
theorem ek_aald (hexec : p.tables.exec = Jvm.exec) (hb : c.code = cc) (hK : ek_K G s) (hw : ek_W G kd I H) {i : Int32} {x : Nat} {K : Option β} (hf : ek_ck (kd x = 60) (ek_ck (ek_in i 12) K) = some r) (hdg : decode cc pc = .ok (.aaload, 1))
    (kk : K = some r → W p l e R s m args below meth c H locs cells slots Q (F0 m (pc + 1) ls (ek_r G (I x i.toNatClampNeg).toNatClampNeg :: rest))) : W p l e R s m args below meth c H locs cells slots Q (F0 m pc ls (.int i :: ek_r G x :: rest)) := by
  obtain ⟨hx, hf⟩ := ek_ck_s hf
  obtain ⟨hin, hf⟩ := ek_ck_s hf
  rw [ek_r_ref (hw.nz (by rw [hx]; omega))]
  have hlt : i.toNatClampNeg < 12 := Nat.not_le.mp fun q => hin (Or.inr q)
  have kk := kk hf
  rw [← ek_o_r] at kk
  exact W.aald (v := va_rf (ek_o G (I x i.toNatClampNeg).toNatClampNeg)) (ty := .object ek_TaskC) hexec hb (ek_W_row hw hx) ((hK.1.2 2 _ rfl).1 12 (fun j => va_rf (ek_o G (I x j).toNatClampNeg))) rfl (fun q => by cases q) (by show ¬ (i < 0 ∨ (arrV _ _ _).slots.size ≤ _); rw [arrV_size]; exact hin) (by show (arrV _ _ _).slots[_]? = _; rw [arrV_read _ _ hlt]) rfl rfl hdg kk
theorem ek_iast (hexec : p.tables.exec = Jvm.exec) (hb : c.code = cc) (hK : ek_K G s) (hw : ek_W G kd I H) (hS : va_S A H0 H locs) (hA : ∀ q, ek_A G kd q → A q) (n : Nat) {k : Nat} (hkn : k = 100 + n) {i v : Int32} {x : Nat} {K : ek_St → Option β} (hf : ek_ck (kd x = k) (ek_ck (ek_in i n) (ek_let (ek_up I x i.toNatClampNeg v) K)) = some r) (hdg : decode cc pc = .ok (.iastore, 1))
    (kk : ∀ (I2 : ek_St) (H1 : Heap) (locs1 : List Loc), K I2 = some r → ek_W G kd I2 H1 → va_S A H0 H1 locs1 → W p l e R s m args below meth c H1 locs1 cells slots Q (F0 m (pc + 1) ls rest)) : W p l e R s m args below meth c H locs cells slots Q (F0 m pc ls (.int v :: .int i :: ek_r G x :: rest)) := by
  subst hkn
  obtain ⟨hx, hf⟩ := ek_ck_s hf
  obtain ⟨hin, hf⟩ := ek_ck_s hf
  have hx0 : kd x ≠ 0 := by rw [hx]; omega
  rw [ek_r_ref (hw.nz hx0)]
  refine W.iast hexec hb (ek_W_int hw hx) ((hK.1.2 0 _ rfl).1 n (fun j => .int (I x j))) (fun q => by cases q) (by show ¬ (i < 0 ∨ (arrV _ _ _).slots.size ≤ _); rw [arrV_size]; exact hin) rfl rfl hdg fun H1 e z oq => ?_
  refine kk _ H1 _ hf (ek_W_put hw ?_ oq) (hS.put z oq (ek_S_A hA hx0))
  rw [hx]
  refine ek_at_int ?_
  rw [e, vp_cell_i, vp_cell_i, arrV_store]
  congr 2
  funext q
  by_cases hq : q = i.toNatClampNeg
  · subst hq
    simp [updV, upd]
  · simp [updV, upd, hq]
theorem ek_zast (hexec : p.tables.exec = Jvm.exec) (hb : c.code = cc) (hK : ek_K G s) (hw : ek_W G kd I H) (hS : va_S A H0 H locs) (hA : ∀ q, ek_A G kd q → A q) {i v : Int32} {x : Nat} {K : ek_St → Option β} (hf : ek_ck (kd x = 50) (ek_ck (ek_in i 12) (ek_ck (v = 0 ∨ v = 1) (ek_let (ek_up I x i.toNatClampNeg v) K))) = some r) (hdg : decode cc pc = .ok (.bastore, 1))
    (kk : ∀ (I2 : ek_St) (H1 : Heap) (locs1 : List Loc), K I2 = some r → ek_W G kd I2 H1 → va_S A H0 H1 locs1 → W p l e R s m args below meth c H1 locs1 cells slots Q (F0 m (pc + 1) ls rest)) : W p l e R s m args below meth c H locs cells slots Q (F0 m pc ls (.int v :: .int i :: ek_r G x :: rest)) := by
  obtain ⟨hx, hf⟩ := ek_ck_s hf
  obtain ⟨hin, hf⟩ := ek_ck_s hf
  obtain ⟨hv, hf⟩ := ek_ck_s hf
  have hx0 : kd x ≠ 0 := by rw [hx]; omega
  rw [ek_r_ref (hw.nz hx0)]
  refine W.zast hexec hb (ek_W_bool hw hx) ((hK.1.2 1 _ rfl).1 12 (fun j => .int (I x j))) (fun q => by cases q) (by show ¬ (i < 0 ∨ (arrV _ _ _).slots.size ≤ _); rw [arrV_size]; exact hin) rfl rfl hdg fun H1 e z oq => ?_
  refine kk _ H1 _ hf (ek_W_put hw ?_ oq) (hS.put z oq (ek_S_A hA hx0))
  rw [hx]
  refine ek_at_bool ?_
  have hv2 : narrow .boolean (.int v) = .int v := by rcases hv with h | h <;> subst h <;> rfl
  rw [e, hv2, vp_cell_i, vp_cell_i, arrV_store]
  congr 2
  funext q
  by_cases hq : q = i.toNatClampNeg
  · subst hq
    simp [updV, upd]
  · simp [updV, upd, hq]
theorem ek_aast (hexec : p.tables.exec = Jvm.exec) (hb : c.code = cc) (hK : ek_K G s) (hw : ek_W G kd I H) (hS : va_S A H0 H locs) (hA : ∀ q, ek_A G kd q → A q) (kx : Nat) {T : u_T} {N : Nat} (hc : vwCl[kx - 1]? = some (ek_TaskC, T, N)) (h0 : kx ≠ 0) (h1 : kx < 20) {i : Int32} {x y : Nat} {K : ek_St → Option β} (hf : ek_ck (kd x = 60) (ek_ck (ek_in i 12) (ek_ck (kd y = kx ∧ y < 2147483648) (ek_let (ek_up I x i.toNatClampNeg (nI y)) K))) = some r) (hdg : decode cc pc = .ok (.aastore, 1))
    (kk : ∀ (I2 : ek_St) (H1 : Heap) (locs1 : List Loc), K I2 = some r → ek_W G kd I2 H1 → va_S A H0 H1 locs1 → W p l e R s m args below meth c H1 locs1 cells slots Q (F0 m (pc + 1) ls rest)) : W p l e R s m args below meth c H locs cells slots Q (F0 m pc ls (ek_r G y :: .int i :: ek_r G x :: rest)) := by
  obtain ⟨hx, hf⟩ := ek_ck_s hf
  obtain ⟨hin, hf⟩ := ek_ck_s hf
  obtain ⟨⟨hy, hy2⟩, hf⟩ := ek_ck_s hf
  have hx0 : kd x ≠ 0 := by rw [hx]; omega
  have hy0 : y ≠ 0 := hw.nz (by rw [hy]; exact h0)
  rw [ek_r_ref (hw.nz hx0), ek_r_ref hy0]
  have hlt : i.toNatClampNeg < 12 := Nat.not_le.mp fun q => hin (Or.inr q)
  have hi0 : ¬ i < 0 := fun q => hin (Or.inl q)
  obtain ⟨cellV, g1, g2, g3, -⟩ := ek_W_obj hw hy h0 h1 hc
  have hcls := (hK.1.1 (kx - 1) _ hc).2
  obtain ⟨kA, comp, k1, k2, k3, -⟩ := (hK.1.2 2 _ rfl).2
  have hcomp : comp = G.1.1 (kx - 1) := Option.some.inj (k3.symm.trans hcls.1)
  subst hcomp
  obtain ⟨kC, hkC, -⟩ := hcls.2
  refine W.aast hexec hb (ek_W_row hw hx) (fun q h => by cases h) (fun h => by cases h) k1 k2 rfl hkC ⟨hi0, by show _ < (arrV _ _ _).slots.size; rw [arrV_size]; exact hlt⟩ g1 (fun q h => by rw [g3] at h; cases h) (by rw [g2]; exact hkC) (by rw [g2]; exact va_assign hcls) rfl rfl hdg fun H1 e z oq => ?_
  refine kk _ H1 _ hf (ek_W_put hw ?_ oq) (hS.put z oq (ek_S_A hA hx0))
  rw [hx]
  refine ek_at_row ?_
  rw [e, vp_cell_q, vp_cell_q, arrV_store]
  congr 2
  funext q
  by_cases hq : q = i.toNatClampNeg
  · subst hq
    simp [updV, upd, nI_clamp hy2, ek_o, hy0, va_rf]
  · simp [updV, upd, hq]
end EKH
/-! contracts -/
def ek_B (G : ek_G) (kd : Nat → Nat) (I : ek_St) (U : State) : Prop := ek_W G kd I U.heap ∧ ek_K G U
def ek_Q (G : ek_G) (kd : Nat → Nat) (rv : Option Value) (I' : ek_St) : Array Value → State → Outcome → State → Prop := fun _ st oc t => oc = .returned rv ∧ ek_W G kd I' t.heap ∧ va_F (ek_A G kd) st t
abbrev ek_M (l : Launch) (G : ek_G) (kd : Nat → Nat) (y : MethodName) (ws : List Cond) (rm : Room) (av : List Value) (I : ek_St) (rv : Option Value) (I' : ek_St) : Prop := Met l y ws rm (va_Pc av (ek_B G kd I)) (ek_Q G kd rv I') 0 0 (ek_A G kd)
theorem ek_nest_f {w : Cond} (h : w ∈ ek_nest) : ∃ (a : String) (i : Nat) (b n d h : String), w = .fieldLinkNest a i b n d h := by
  simp only [ek_nest, List.mem_cons, List.not_mem_nil, or_false] at h
  rcases h with rfl | rfl | rfl | rfl | rfl | rfl | rfl | rfl | rfl | rfl | rfl | rfl | rfl | rfl | rfl | rfl | rfl | rfl | rfl | rfl | rfl | rfl | rfl | rfl | rfl | rfl | rfl | rfl | rfl | rfl | rfl <;> exact ⟨_, _, _, _, _, _, rfl⟩
theorem ek_K_warm {G : ek_G} {s U : State} (hW : s.WarmedH U.vm) (h : ek_K G s) : ek_K G U := ⟨va_K.moved hW.alike h.1, fun w hw => by
  obtain ⟨a, i, b, n, d, k, rfl⟩ := ek_nest_f hw
  exact va_Nw.warmF hW (h.2 _ hw)⟩
theorem ek_K_same {G : ek_G} {u U : State} (hv : u.vm = U.vm) (h : ek_K G u) : ek_K G U := ⟨va_K.moved (by rw [hv]; exact Vm.Alike.refl _) h.1, fun w hw => by
  obtain ⟨a, i, b, n, d, k, rfl⟩ := ek_nest_f hw
  exact va_Nw.same rfl hv (h.2 _ hw)⟩
theorem ek_blind {G : ek_G} {kd : Nat → Nat} {I : ek_St} {av : List Value} : FrameBlind (va_Pc av (ek_B G kd I)) := fun a U g mk q => ⟨q.1, q.2.1, ek_K_same (u := U) (U := U.calling g mk a) rfl q.2.2⟩
theorem ek_preS {s : State} {H : Heap} {G : ek_G} {kd : Nat → Nat} {I : ek_St} {av : List Value} (hw : ek_W G kd I H) (hK : ek_K G s) : PreS s H (va_Pc av (ek_B G kd I)) av := ⟨ek_blind, fun U hU hW => ⟨rfl, by rw [hU]; exact hw, ek_K_warm hW hK⟩⟩
theorem ek_preV {s : State} {H : Heap} {G : ek_G} {kd : Nat → Nat} {I : ek_St} {As : List Value} (hw : ek_W G kd I H) (hK : ek_K G s) (kx : Nat) {q : vw_C} (hc : vwCl[kx - 1]? = some q) (h0 : kx ≠ 0) (h1 : kx < 20) {x : Nat} (hx : kd x = kx) : PreV s H q.1 (G.2.2 + x) (va_Pc (.ref (G.2.2 + x) :: As) (ek_B G kd I)) As := by
  obtain ⟨cell, q1, q2, q3, -⟩ := ek_W_obj hw hx h0 h1 hc
  exact ⟨ek_blind, ⟨cell, q1, by rw [q3]; rfl, by rw [q2]; exact (hK.1.1 (kx - 1) q hc).2.1⟩, fun U hU hW => ⟨rfl, by rw [hU]; exact hw, ek_K_warm hW hK⟩⟩
theorem ek_rest {rest : List Value} (h : rest.length ≤ 4) : (rest.map fun v => v.category).sum ≤ 8 := by
  have key : ∀ r : List Value, (r.map fun v => v.category).sum ≤ 2 * r.length := by
    intro r
    induction r with
    | nil => simp
    | cons v t ih =>
      rcases lv_cat v with h | h <;> simp [h] <;> omega
  have := key rest
  omega
section EKC
variable {p : Program} {l : Launch} {e : Env} {R : Room} {s : State} {m : MethodId} {args : Array Value} {below : List Frame} {meth : Method} {c : Code} {H : Heap} {locs : List Loc} {cells slots : Nat} {Q : State → Prop}
variable {cc : ByteArray} {pc : Nat} {ls : Array Slot} {rest st0 : List Value} {G : ek_G} {kd : Nat → Nat} {I I' : ek_St} {H0 : Heap} {A : Nat → Prop} {β : Type} {r : β} {rv : Option Value} {a : Array Value}
variable {y : MethodName} {bytes : ByteArray} {maxL nL n index : Nat} {ret : Option FieldType} {ws : List Cond} {rm : Room} {Ts : List Cond} {own C host : String} {As : List Value}
theorem ek_run (hr : va_Run p l e R s m args below meth c H locs cells slots 0 0 (F0 m pc ls st0) rest (ek_Q G kd rv I' a) (ek_A G kd)) (hS : va_S A H0 H locs) (hA : ∀ q, ek_A G kd q → A q)
    (kk : ∀ (H1 : Heap) (locs1 : List Loc), ek_W G kd I' H1 → va_S A H0 H1 locs1 → W p l e R s m args below meth c H1 locs1 cells slots Q (F0 m (pc + 3) ls (rv.toList ++ rest))) : W p l e R s m args below meth c H locs cells slots Q (F0 m pc ls st0) := by
  intro T hT X
  obtain ⟨v, st₀, t, T', L, h0, X', hL, e1, e2, ⟨hv, hw, hz, hk⟩, st⟩ := hr T hT X
  cases hv
  rw [h0] at hz hk
  obtain ⟨t2, a1, b1⟩ := kk T'.heap (locs ++ L) (by rw [e1]; exact hw)
    ⟨Nat.le_trans hS.1 (by rw [e1]; exact hz), fun q h1 h2 => by rw [e1, hk q (Nat.lt_of_lt_of_le h1 hS.1) (fun z => h2 (hA q z))]; exact hS.2.1 q h1 h2, fun q hq => by
      rcases List.mem_append.mp hq with h | h
      · exact hS.2.2 q h
      · exact hA _ (hL q h)⟩ T' rfl X'
  exact ⟨t2, st t2 a1, b1⟩
theorem ek_rV (S : CallFix p m c cc nL s args Ts own) (hK : ek_K G s) (hw : ek_W G kd I H) (kx : Nat) {T : u_T} {N x : Nat} (hc : vwCl[kx - 1]? = some (C, T, N)) (h0 : kx ≠ 0) (h1 : kx < 20) (hx : kd x = kx) (hM : ek_M l G kd y ws rm (ek_r G x :: As) I rv I') (cw : CallW R s args own C index y bytes maxL ret ws rm 0 0 n) (hn : As.length = n) (hsize : ls.size = nL) (hst : st0 = As.reverse ++ ek_r G x :: rest) (hr4 : rest.length ≤ 4) (hdg : decode cc pc = .ok (.invokevirtual index, 3)) (hcs : cells ≤ R.cells ∧ slots ≤ R.slots) :
    va_Run p l e R s m args below meth c H locs cells slots 0 0 (F0 m pc ls st0) rest (ek_Q G kd rv I' (Value.ref (G.2.2 + x) :: As).toArray) (ek_A G kd) := by
  rw [ek_r_ref (hw.nz (by rw [hx]; exact h0))] at hM hst
  exact va_runV S hM cw (ek_preV hw hK kx hc h0 h1 hx) rfl hn hsize hst (lv_room (ek_rest hr4)) hdg hcs
theorem ek_rVN (S : CallFix p m c cc nL s args Ts own) (hK : ek_K G s) (hw : ek_W G kd I H) (kx : Nat) {T : u_T} {N x : Nat} (hc : vwCl[kx - 1]? = some (C, T, N)) (h0 : kx ≠ 0) (h1 : kx < 20) (hx : kd x = kx) (hM : ek_M l G kd y ws rm (ek_r G x :: As) I rv I') (cw : va_CN R s args own index y host bytes maxL ret ws rm 0 0 n ∧ (Cond.instanceMethod y).before args s = true ∧ (Cond.selects C y y).before args s = true) (hn : As.length = n) (hsize : ls.size = nL) (hst : st0 = As.reverse ++ ek_r G x :: rest) (hr4 : rest.length ≤ 4) (hdg : decode cc pc = .ok (.invokevirtual index, 3)) (hcs : cells ≤ R.cells ∧ slots ≤ R.slots) :
    va_Run p l e R s m args below meth c H locs cells slots 0 0 (F0 m pc ls st0) rest (ek_Q G kd rv I' (Value.ref (G.2.2 + x) :: As).toArray) (ek_A G kd) := by
  rw [ek_r_ref (hw.nz (by rw [hx]; exact h0))] at hM hst
  exact va_runVN S hM cw (ek_preV hw hK kx hc h0 h1 hx) rfl hn hsize hst (lv_room (ek_rest hr4)) hdg hcs
theorem ek_rS (S : CallFix p m c cc nL s args Ts own) (hK : ek_K G s) (hw : ek_W G kd I H) (hM : ek_M l G kd y ws rm As I rv I') (cw : CallB R s args own index y bytes maxL ret ws rm 0 0 n ∧ (Cond.static y).before args s = true) (hn : As.length = n) (hsize : ls.size = nL) (hst : st0 = As.reverse ++ rest) (hr4 : rest.length ≤ 4) (hdg : decode cc pc = .ok (.invokestatic index, 3)) (hcs : cells ≤ R.cells ∧ slots ≤ R.slots) :
    va_Run p l e R s m args below meth c H locs cells slots 0 0 (F0 m pc ls st0) rest (ek_Q G kd rv I' As.toArray) (ek_A G kd) :=
  va_runS S hM cw (ek_preS hw hK) rfl hn hsize hst (lv_room (ek_rest hr4)) hdg hcs
theorem ek_rSN (S : CallFix p m c cc nL s args Ts own) (hK : ek_K G s) (hw : ek_W G kd I H) (hM : ek_M l G kd y ws rm As I rv I') (cw : va_CN R s args own index y host bytes maxL ret ws rm 0 0 n ∧ (Cond.static y).before args s = true ∧ True) (hn : As.length = n) (hsize : ls.size = nL) (hst : st0 = As.reverse ++ rest) (hr4 : rest.length ≤ 4) (hdg : decode cc pc = .ok (.invokestatic index, 3)) (hcs : cells ≤ R.cells ∧ slots ≤ R.slots) :
    va_Run p l e R s m args below meth c H locs cells slots 0 0 (F0 m pc ls st0) rest (ek_Q G kd rv I' As.toArray) (ek_A G kd) :=
  va_runSN S hM cw (ek_preS hw hK) rfl hn hsize hst (lv_room (ek_rest hr4)) hdg hcs
theorem ek_ci {fc : Option (ek_St × Int32)} {K : ek_St → Int32 → Option β} (hf : ek_bi fc K = some r) (hS : va_S A H0 H locs) (hA : ∀ q, ek_A G kd q → A q)
    (hr : ∀ (I' : ek_St) (v : Int32), fc = some (I', v) → va_Run p l e R s m args below meth c H locs cells slots 0 0 (F0 m pc ls st0) rest (ek_Q G kd (some (.int v)) I' a) (ek_A G kd))
    (kk : ∀ (I2 : ek_St) (v : Int32) (H1 : Heap) (locs1 : List Loc), K I2 v = some r → ek_W G kd I2 H1 → va_S A H0 H1 locs1 → W p l e R s m args below meth c H1 locs1 cells slots Q (F0 m (pc + 3) ls (.int v :: rest))) : W p l e R s m args below meth c H locs cells slots Q (F0 m pc ls st0) := by
  obtain ⟨I2, v, e1, hf⟩ := ek_bi_s hf
  exact ek_run (hr I2 v e1) hS hA (fun H1 locs1 hw hS => kk I2 v H1 locs1 hf hw hS)
theorem ek_cr {fc : Option (ek_St × Nat)} {K : ek_St → Nat → Option β} (hf : ek_bi fc K = some r) (hS : va_S A H0 H locs) (hA : ∀ q, ek_A G kd q → A q)
    (hr : ∀ (I' : ek_St) (v : Nat), fc = some (I', v) → va_Run p l e R s m args below meth c H locs cells slots 0 0 (F0 m pc ls st0) rest (ek_Q G kd (some (ek_r G v)) I' a) (ek_A G kd))
    (kk : ∀ (I2 : ek_St) (v : Nat) (H1 : Heap) (locs1 : List Loc), K I2 v = some r → ek_W G kd I2 H1 → va_S A H0 H1 locs1 → W p l e R s m args below meth c H1 locs1 cells slots Q (F0 m (pc + 3) ls (ek_r G v :: rest))) : W p l e R s m args below meth c H locs cells slots Q (F0 m pc ls st0) := by
  obtain ⟨I2, v, e1, hf⟩ := ek_bi_s hf
  exact ek_run (hr I2 v e1) hS hA (fun H1 locs1 hw hS => kk I2 v H1 locs1 hf hw hS)
theorem ek_cv {fc : Option ek_St} {K : ek_St → Option β} (hf : ek_bv fc K = some r) (hS : va_S A H0 H locs) (hA : ∀ q, ek_A G kd q → A q)
    (hr : ∀ I' : ek_St, fc = some I' → va_Run p l e R s m args below meth c H locs cells slots 0 0 (F0 m pc ls st0) rest (ek_Q G kd none I' a) (ek_A G kd))
    (kk : ∀ (I2 : ek_St) (H1 : Heap) (locs1 : List Loc), K I2 = some r → ek_W G kd I2 H1 → va_S A H0 H1 locs1 → W p l e R s m args below meth c H1 locs1 cells slots Q (F0 m (pc + 3) ls rest)) : W p l e R s m args below meth c H locs cells slots Q (F0 m pc ls st0) := by
  obtain ⟨I2, e1, hf⟩ := ek_bv_s hf
  exact ek_run (hr I2 e1) hS hA (fun H1 locs1 hw hS => kk I2 H1 locs1 hf hw hS)
theorem ek_iret (hexec : p.tables.exec = Jvm.exec) (hb : c.code = cc) (hr : meth.sig.returnType = some .int) (hlocks : meth.locks = false) (hw : ek_W G kd I H) (hS : va_S (ek_A G kd) s.heap H locs) {v : Int32} {q : ek_St × Int32} (hf : some (I, v) = some q) (hdg : decode cc pc = .ok (.ireturn, 1)) : W p l e R s m args below meth c H locs 0 0 (MQ below (ek_Q G kd (some (.int q.2)) q.1) args s 0 0 (ek_A G kd)) (F0 m pc ls [.int v]) := by
  cases hf
  exact W.iret hexec hb hr (fun t ht hW => ⟨rfl, by rw [ht]; exact hw, hS.F ht⟩) hS.2.2 hdg hlocks
theorem ek_zret (hexec : p.tables.exec = Jvm.exec) (hb : c.code = cc) (hr : meth.sig.returnType = some .boolean) (hlocks : meth.locks = false) (hw : ek_W G kd I H) (hS : va_S (ek_A G kd) s.heap H locs) {v : Int32} {q : ek_St × Int32} (hf : ek_ck (v = 0 ∨ v = 1) (some (I, v)) = some q) (hdg : decode cc pc = .ok (.ireturn, 1)) : W p l e R s m args below meth c H locs 0 0 (MQ below (ek_Q G kd (some (.int q.2)) q.1) args s 0 0 (ek_A G kd)) (F0 m pc ls [.int v]) := by
  obtain ⟨hv, hf⟩ := ek_ck_s hf
  cases hf
  exact W.zret hexec hb hr (by rcases hv with h | h <;> subst h <;> rfl) (fun t ht hW => ⟨rfl, by rw [ht]; exact hw, hS.F ht⟩) hS.2.2 hdg hlocks
theorem ek_vret (hexec : p.tables.exec = Jvm.exec) (hb : c.code = cc) (hr : meth.sig.returnType = none) (hlocks : meth.locks = false) (hw : ek_W G kd I H) (hS : va_S (ek_A G kd) s.heap H locs) {q : ek_St} (hf : some I = some q) (hdg : decode cc pc = .ok (.return_, 1)) : W p l e R s m args below meth c H locs 0 0 (MQ below (ek_Q G kd none q) args s 0 0 (ek_A G kd)) (F0 m pc ls []) := by
  cases hf
  exact W.vret hexec hb hr (fun t ht hW => ⟨rfl, by rw [ht]; exact hw, hS.F ht⟩) hS.2.2 hdg hlocks
theorem ek_aret (hexec : p.tables.exec = Jvm.exec) (hb : c.code = cc) {C : String} (hr : meth.sig.returnType = some (.object C)) (hlocks : meth.locks = false) (hw : ek_W G kd I H) (hS : va_S (ek_A G kd) s.heap H locs) {v : Nat} {q : ek_St × Nat} (hf : some (I, v) = some q) (hdg : decode cc pc = .ok (.areturn, 1)) : W p l e R s m args below meth c H locs 0 0 (MQ below (ek_Q G kd (some (ek_r G q.2)) q.1) args s 0 0 (ek_A G kd)) (F0 m pc ls [ek_r G v]) := by
  cases hf
  exact W.aret hexec hb hr (Or.inl ⟨C, rfl⟩) (by unfold ek_r; split; exact Or.inl rfl; exact Or.inr ⟨_, rfl⟩) (fun t ht hW => ⟨rfl, by rw [ht]; exact hw, hS.F ht⟩) hS.2.2 hdg hlocks
end EKC
/-- how a body begins: the context, the locals, the world -/
def ek_X (p : Program) (s : State) (m : MethodId) (meth : Method) (c : Code) (args : Array Value) (G : ek_G) (cc : ByteArray) (nL : Nat) (own : String) (ret : Option FieldType) : Prop :=
  p.tables.exec = Jvm.exec ∧ c.code = cc ∧ c.maxLocals = nL ∧ s.vm.findClass own = some m.cls ∧ (∀ w ∈ lw_g, w.before args s = true) ∧ meth.sig.returnType = ret ∧ meth.locks = false ∧ ek_K G s
theorem ek_body {l : Launch} {G : ek_G} {kd : Nat → Nat} {I I' : ek_St} {rv : Option Value} {y : MethodName} {rm : Room} {cc : ByteArray} {maxL : Nat} {ret : Option FieldType} {av : List Value} (la : List (Nat × Value)) (hy : plainName y.cls = true) (hlen : (lg_sl av).length ≤ maxL) (hla : lv_args 0 av = la)
    (h : ∀ (p : Program) (e : Env) (s : State) (m : MethodId) (below : List Frame) (meth : Method) (c : Code) (ls : Array Slot), ek_X p s m meth c av.toArray G cc maxL y.cls ret → ek_W G kd I s.heap → va_S (ek_A G kd) s.heap s.heap [] → lv_has ls maxL la → W p l e rm s m av.toArray below meth c s.heap [] 0 0 (MQ below (ek_Q G kd rv I') av.toArray s 0 0 (ek_A G kd)) (F0 m 0 ls [])) : ek_M l G kd y (.code y cc maxL ret :: lw_g) rm av I rv I' := by
  refine Met.ofW (cc := cc) (maxL := maxL) (ret := ret) hy rfl ?_
  intro p e s m args below meth c s₁ B hml hv
  obtain ⟨rfl, hW, hK⟩ := hv
  rw [lg_entry_eq]
  have hl := lv_entry av hlen
  rw [hla] at hl
  exact h p e s m below meth c _ ⟨B.exec, B.bytes, hml, findClass_of_methodNamed B.named, fun w hw => atoms_spec (ws := .code y cc maxL ret :: lw_g) B.pre w (List.mem_cons_of_mem _ hw), B.returns, B.notSynchronized, hK⟩ hW va_S.rf hl
/-! loops: a step function, iterated as often as ek_N says -/
def ek_N : Nat := 20000
def ek_lp {α β : Type} (F : (α → Option β) → α → Option β) : Nat → α → Option β
  | 0, _ => none
  | n + 1, a => F (ek_lp F n) a
theorem ek_lp_ind {α β : Type} {r : β} {F : (α → Option β) → α → Option β} {Q : α → Prop} (h : ∀ k : α → Option β, (∀ a, k a = some r → Q a) → ∀ a, F k a = some r → Q a) : ∀ (n : Nat) (a : α), ek_lp F n a = some r → Q a
  | 0, _, e => by cases e
  | n + 1, a, e => h (ek_lp F n) (ek_lp_ind h n) a e
theorem lw_V {own C : String} {idx maxL : Nat} {y : MethodName} {cc : ByteArray} {ret : Option FieldType} (h1 : Cond.methodLink own idx y ∈ lw_g) (h2 : Cond.instanceMethod y ∈ lw_g) (h3 : Cond.selects C y y ∈ lw_g) (h4 : Cond.initialized C ∈ lw_g) (h5 : Cond.code y cc maxL ret ∈ lw_g) : GoodIn lw_g (wsV own idx C y (.code y cc maxL ret :: lw_g)) := by
  have hg : ∀ w ∈ lw_g, w ∈ lw_g ∧ ((w.onTables && w.keeps) = true ∨ ∃ ty, w = .arrayClass ty) := fun w h => ⟨h, lw_gg h⟩
  intro w hw
  unfold wsV at hw
  rcases List.mem_append.mp hw with h | h
  · simp only [List.mem_cons, List.not_mem_nil, or_false] at h
    rcases h with rfl | rfl | rfl | rfl
    · exact hg _ h1
    · exact hg _ h2
    · exact hg _ h3
    · exact hg _ h4
  · rcases List.mem_cons.mp h with rfl | h
    · exact hg _ h5
    · exact hg _ h
theorem lw_C {y : MethodName} {cc : ByteArray} {maxL : Nat} {ret : Option FieldType} (h5 : Cond.code y cc maxL ret ∈ lw_g) : GoodIn lw_g (.code y cc maxL ret :: lw_g) := by
  intro w hw
  rcases List.mem_cons.mp hw with rfl | h
  · exact ⟨h5, lw_gg h5⟩
  · exact ⟨h, lw_gg h⟩
theorem ek_cwS {R : Room} {s : State} {args : Array Value} {own : String} {index maxL : Nat} {y : MethodName} {bytes : ByteArray} {ret : Option FieldType} {rm : Room} (n : Nat) (ht : ∀ w ∈ lw_g, w.before args s = true) (h1 : Cond.methodLink own index y ∈ lw_g) (h2 : Cond.static y ∈ lw_g) (h3 : Cond.initialized y.cls ∈ lw_g) (h5 : Cond.code y bytes maxL ret ∈ lw_g) (hd : y.cls ≠ "java/lang/invoke/MethodHandle" ∧ y.cls ≠ "java/lang/invoke/VarHandle" ∧ (parseMethodDescriptor y.desc).map (fun d => d.parameters.length) = some n) (hR : rm.frames + 1 ≤ R.frames ∧ 8 + (maxL + 11) + rm.locals ≤ R.locals) :
    CallB R s args own index y bytes maxL ret (.code y bytes maxL ret :: lw_g) rm rm.cells rm.slots n ∧ (Cond.static y).before args s = true :=
  ⟨callB_of n ht (lw_C h5) rfl rfl rfl (ht _ h3) (ht _ h1) hd hR, ht _ h2⟩
theorem ek_room13 {rest : List Value} {k : Nat} (h : rest.length ≤ 4) (hk : 21 ≤ k) : (rest.map fun v => v.category).sum + 13 ≤ k := by
  have := ek_rest h
  omega
theorem ek_roomN {rest : List Value} {k : Nat} (h : rest.length ≤ 4) (hk : 8 + (nativeFrameWords "java/lang/System" "arraycopy" 5 + 11) ≤ k) : (rest.map fun v => v.category).sum + (nativeFrameWords "java/lang/System" "arraycopy" 5 + 11) ≤ k := by
  have := ek_rest h
  omega
/-- a whole Natural's words copied -/
def ek_cp (I : ek_St) (x y : Nat) : ek_St := fun z k => if z = y ∧ k < 16 then I x k else I z k
end
