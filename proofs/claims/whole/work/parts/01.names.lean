-- ===== PART A: goes FIRST, ahead of the names: the tables' words, and 'selects' of the private methods out of them =====
/-- a private method of a class that the tables say can be made, by its rows of tables_1 -/
def lw_okq (q : MethodName × Nat) : Prop := (q.1.cls ≠ "java/lang/invoke/MethodHandle" ∧ q.1.cls ≠ "java/lang/invoke/VarHandle") ∧ Cond.instantiable q.1.cls q.2 ∈ tables_1 ∧ Cond.privateMethod q.1 ∈ tables_1 ∧ Cond.instanceMethod q.1 ∈ tables_1
theorem lw_p0 : lw_okq (⟨"ComponentContainer", "closeInnermostScope", "()I"⟩, 7) := ⟨⟨by decide +kernel, by decide +kernel⟩, List.mem_of_getElem? (i := 15) (by decide +kernel), List.mem_of_getElem? (i := 156) (by decide +kernel), List.mem_of_getElem? (i := 157) (by decide +kernel)⟩
theorem lw_p1 : lw_okq (⟨"ComponentContainer$Ledger", "destroyFrom", "(II)I"⟩, 10) := ⟨⟨by decide +kernel, by decide +kernel⟩, List.mem_of_getElem? (i := 52) (by decide +kernel), List.mem_of_getElem? (i := 164) (by decide +kernel), List.mem_of_getElem? (i := 165) (by decide +kernel)⟩
theorem lw_p2 : lw_okq (⟨"ComponentContainer$Ledger", "destroy", "(I)V"⟩, 10) := ⟨⟨by decide +kernel, by decide +kernel⟩, List.mem_of_getElem? (i := 52) (by decide +kernel), List.mem_of_getElem? (i := 168) (by decide +kernel), List.mem_of_getElem? (i := 169) (by decide +kernel)⟩
theorem lw_p3 : lw_okq (⟨"ComponentContainer$Ledger", "recordEvent", "(I)V"⟩, 10) := ⟨⟨by decide +kernel, by decide +kernel⟩, List.mem_of_getElem? (i := 52) (by decide +kernel), List.mem_of_getElem? (i := 172) (by decide +kernel), List.mem_of_getElem? (i := 173) (by decide +kernel)⟩
theorem lw_p4 : lw_okq (⟨"java/lang/Throwable", "fillInStackTrace", "(I)Ljava/lang/Throwable;"⟩, 6) := ⟨⟨by decide +kernel, by decide +kernel⟩, List.mem_of_getElem? (i := 253) (by decide +kernel), List.mem_of_getElem? (i := 251) (by decide +kernel), List.mem_of_getElem? (i := 252) (by decide +kernel)⟩
theorem lw_p5 : lw_okq (⟨"ComponentContainer", "requireComponent", "(I)V"⟩, 7) := ⟨⟨by decide +kernel, by decide +kernel⟩, List.mem_of_getElem? (i := 15) (by decide +kernel), List.mem_of_getElem? (i := 311) (by decide +kernel), List.mem_of_getElem? (i := 312) (by decide +kernel)⟩
theorem lw_p6 : lw_okq (⟨"ComponentContainer", "requireProperty", "(I)V"⟩, 7) := ⟨⟨by decide +kernel, by decide +kernel⟩, List.mem_of_getElem? (i := 15) (by decide +kernel), List.mem_of_getElem? (i := 331) (by decide +kernel), List.mem_of_getElem? (i := 332) (by decide +kernel)⟩
theorem lw_p7 : lw_okq (⟨"ComponentContainer", "requireTypeAndQualifier", "(II)V"⟩, 7) := ⟨⟨by decide +kernel, by decide +kernel⟩, List.mem_of_getElem? (i := 15) (by decide +kernel), List.mem_of_getElem? (i := 351) (by decide +kernel), List.mem_of_getElem? (i := 352) (by decide +kernel)⟩
theorem lw_p8 : lw_okq (⟨"ComponentContainer", "tryConstruction", "(II)I"⟩, 7) := ⟨⟨by decide +kernel, by decide +kernel⟩, List.mem_of_getElem? (i := 15) (by decide +kernel), List.mem_of_getElem? (i := 445) (by decide +kernel), List.mem_of_getElem? (i := 446) (by decide +kernel)⟩
theorem lw_p9 : lw_okq (⟨"ComponentContainer", "tryDependency", "(III)I"⟩, 7) := ⟨⟨by decide +kernel, by decide +kernel⟩, List.mem_of_getElem? (i := 15) (by decide +kernel), List.mem_of_getElem? (i := 449) (by decide +kernel), List.mem_of_getElem? (i := 450) (by decide +kernel)⟩
theorem lw_p10 : lw_okq (⟨"ComponentContainer", "tryEach", "(II)I"⟩, 7) := ⟨⟨by decide +kernel, by decide +kernel⟩, List.mem_of_getElem? (i := 15) (by decide +kernel), List.mem_of_getElem? (i := 459) (by decide +kernel), List.mem_of_getElem? (i := 460) (by decide +kernel)⟩
theorem lw_p11 : lw_okq (⟨"ComponentContainer", "requestOrThrow", "(II)I"⟩, 7) := ⟨⟨by decide +kernel, by decide +kernel⟩, List.mem_of_getElem? (i := 15) (by decide +kernel), List.mem_of_getElem? (i := 492) (by decide +kernel), List.mem_of_getElem? (i := 493) (by decide +kernel)⟩
theorem lw_p12 : lw_okq (⟨"ComponentContainer", "request", "(III)I"⟩, 7) := ⟨⟨by decide +kernel, by decide +kernel⟩, List.mem_of_getElem? (i := 15) (by decide +kernel), List.mem_of_getElem? (i := 496) (by decide +kernel), List.mem_of_getElem? (i := 497) (by decide +kernel)⟩
theorem lw_p13 : lw_okq (⟨"ComponentContainer", "recordFailure", "(III)I"⟩, 7) := ⟨⟨by decide +kernel, by decide +kernel⟩, List.mem_of_getElem? (i := 15) (by decide +kernel), List.mem_of_getElem? (i := 500) (by decide +kernel), List.mem_of_getElem? (i := 501) (by decide +kernel)⟩
theorem lw_p14 : lw_okq (⟨"ComponentContainer", "obtain", "(II)I"⟩, 7) := ⟨⟨by decide +kernel, by decide +kernel⟩, List.mem_of_getElem? (i := 15) (by decide +kernel), List.mem_of_getElem? (i := 511) (by decide +kernel), List.mem_of_getElem? (i := 512) (by decide +kernel)⟩
theorem lw_p15 : lw_okq (⟨"ComponentContainer", "construct", "(III)I"⟩, 7) := ⟨⟨by decide +kernel, by decide +kernel⟩, List.mem_of_getElem? (i := 15) (by decide +kernel), List.mem_of_getElem? (i := 515) (by decide +kernel), List.mem_of_getElem? (i := 516) (by decide +kernel)⟩
def lw_privs_1 : List (MethodName × Nat) := [(⟨"ComponentContainer", "closeInnermostScope", "()I"⟩, 7), (⟨"ComponentContainer$Ledger", "destroyFrom", "(II)I"⟩, 10), (⟨"ComponentContainer$Ledger", "destroy", "(I)V"⟩, 10), (⟨"ComponentContainer$Ledger", "recordEvent", "(I)V"⟩, 10), (⟨"java/lang/Throwable", "fillInStackTrace", "(I)Ljava/lang/Throwable;"⟩, 6), (⟨"ComponentContainer", "requireComponent", "(I)V"⟩, 7), (⟨"ComponentContainer", "requireProperty", "(I)V"⟩, 7), (⟨"ComponentContainer", "requireTypeAndQualifier", "(II)V"⟩, 7), (⟨"ComponentContainer", "tryConstruction", "(II)I"⟩, 7), (⟨"ComponentContainer", "tryDependency", "(III)I"⟩, 7), (⟨"ComponentContainer", "tryEach", "(II)I"⟩, 7), (⟨"ComponentContainer", "requestOrThrow", "(II)I"⟩, 7), (⟨"ComponentContainer", "request", "(III)I"⟩, 7), (⟨"ComponentContainer", "recordFailure", "(III)I"⟩, 7), (⟨"ComponentContainer", "obtain", "(II)I"⟩, 7), (⟨"ComponentContainer", "construct", "(III)I"⟩, 7)]
theorem lw_r1 : ∀ q ∈ lw_privs_1, lw_okq q := List.forall_mem_cons.mpr ⟨lw_p0, List.forall_mem_cons.mpr ⟨lw_p1, List.forall_mem_cons.mpr ⟨lw_p2, List.forall_mem_cons.mpr ⟨lw_p3, List.forall_mem_cons.mpr ⟨lw_p4, List.forall_mem_cons.mpr ⟨lw_p5, List.forall_mem_cons.mpr ⟨lw_p6, List.forall_mem_cons.mpr ⟨lw_p7, List.forall_mem_cons.mpr ⟨lw_p8, List.forall_mem_cons.mpr ⟨lw_p9, List.forall_mem_cons.mpr ⟨lw_p10, List.forall_mem_cons.mpr ⟨lw_p11, List.forall_mem_cons.mpr ⟨lw_p12, List.forall_mem_cons.mpr ⟨lw_p13, List.forall_mem_cons.mpr ⟨lw_p14, List.forall_mem_cons.mpr ⟨lw_p15, fun _ h => absurd h List.not_mem_nil⟩⟩⟩⟩⟩⟩⟩⟩⟩⟩⟩⟩⟩⟩⟩⟩
theorem lw_p16 : lw_okq (⟨"ComponentContainer", "isUnderConstruction", "(II)Z"⟩, 7) := ⟨⟨by decide +kernel, by decide +kernel⟩, List.mem_of_getElem? (i := 15) (by decide +kernel), List.mem_of_getElem? (i := 519) (by decide +kernel), List.mem_of_getElem? (i := 520) (by decide +kernel)⟩
theorem lw_p17 : lw_okq (⟨"ComponentContainer", "inject", "(III)I"⟩, 7) := ⟨⟨by decide +kernel, by decide +kernel⟩, List.mem_of_getElem? (i := 15) (by decide +kernel), List.mem_of_getElem? (i := 523) (by decide +kernel), List.mem_of_getElem? (i := 524) (by decide +kernel)⟩
theorem lw_p18 : lw_okq (⟨"ComponentContainer", "obtainEach", "(II)I"⟩, 7) := ⟨⟨by decide +kernel, by decide +kernel⟩, List.mem_of_getElem? (i := 15) (by decide +kernel), List.mem_of_getElem? (i := 527) (by decide +kernel), List.mem_of_getElem? (i := 528) (by decide +kernel)⟩
theorem lw_p19 : lw_okq (⟨"ComponentContainer", "complete", "(III)I"⟩, 7) := ⟨⟨by decide +kernel, by decide +kernel⟩, List.mem_of_getElem? (i := 15) (by decide +kernel), List.mem_of_getElem? (i := 531) (by decide +kernel), List.mem_of_getElem? (i := 532) (by decide +kernel)⟩
theorem lw_p20 : lw_okq (⟨"ComponentContainer", "requireInstance", "(I)V"⟩, 7) := ⟨⟨by decide +kernel, by decide +kernel⟩, List.mem_of_getElem? (i := 15) (by decide +kernel), List.mem_of_getElem? (i := 552) (by decide +kernel), List.mem_of_getElem? (i := 553) (by decide +kernel)⟩
theorem lw_p21 : lw_okq (⟨"ComponentContainerModel", "isComponent", "(I)Z"⟩, 33) := ⟨⟨by decide +kernel, by decide +kernel⟩, List.mem_of_getElem? (i := 613) (by decide +kernel), List.mem_of_getElem? (i := 735) (by decide +kernel), List.mem_of_getElem? (i := 736) (by decide +kernel)⟩
theorem lw_p22 : lw_okq (⟨"ComponentContainerModel", "of", "(II)I"⟩, 33) := ⟨⟨by decide +kernel, by decide +kernel⟩, List.mem_of_getElem? (i := 613) (by decide +kernel), List.mem_of_getElem? (i := 742) (by decide +kernel), List.mem_of_getElem? (i := 743) (by decide +kernel)⟩
theorem lw_p23 : lw_okq (⟨"ComponentContainerModel", "dependAt", "(III)I"⟩, 33) := ⟨⟨by decide +kernel, by decide +kernel⟩, List.mem_of_getElem? (i := 613) (by decide +kernel), List.mem_of_getElem? (i := 765) (by decide +kernel), List.mem_of_getElem? (i := 766) (by decide +kernel)⟩
theorem lw_p24 : lw_okq (⟨"ComponentContainerModel", "candidatesFor", "(II)I"⟩, 33) := ⟨⟨by decide +kernel, by decide +kernel⟩, List.mem_of_getElem? (i := 613) (by decide +kernel), List.mem_of_getElem? (i := 781) (by decide +kernel), List.mem_of_getElem? (i := 782) (by decide +kernel)⟩
theorem lw_p25 : lw_okq (⟨"ComponentContainerModel", "isActive", "(I)Z"⟩, 33) := ⟨⟨by decide +kernel, by decide +kernel⟩, List.mem_of_getElem? (i := 613) (by decide +kernel), List.mem_of_getElem? (i := 785) (by decide +kernel), List.mem_of_getElem? (i := 786) (by decide +kernel)⟩
theorem lw_p26 : lw_okq (⟨"ComponentContainerModel", "choose", "(II)I"⟩, 33) := ⟨⟨by decide +kernel, by decide +kernel⟩, List.mem_of_getElem? (i := 613) (by decide +kernel), List.mem_of_getElem? (i := 793) (by decide +kernel), List.mem_of_getElem? (i := 794) (by decide +kernel)⟩
theorem lw_p27 : lw_okq (⟨"ComponentContainerModel", "push", "(I)V"⟩, 33) := ⟨⟨by decide +kernel, by decide +kernel⟩, List.mem_of_getElem? (i := 613) (by decide +kernel), List.mem_of_getElem? (i := 807) (by decide +kernel), List.mem_of_getElem? (i := 808) (by decide +kernel)⟩
theorem lw_p28 : lw_okq (⟨"ComponentContainerModel", "wouldGoOn", "()I"⟩, 33) := ⟨⟨by decide +kernel, by decide +kernel⟩, List.mem_of_getElem? (i := 613) (by decide +kernel), List.mem_of_getElem? (i := 811) (by decide +kernel), List.mem_of_getElem? (i := 812) (by decide +kernel)⟩
theorem lw_p29 : lw_okq (⟨"ComponentContainerModel", "isInFrames", "(I)Z"⟩, 33) := ⟨⟨by decide +kernel, by decide +kernel⟩, List.mem_of_getElem? (i := 613) (by decide +kernel), List.mem_of_getElem? (i := 815) (by decide +kernel), List.mem_of_getElem? (i := 816) (by decide +kernel)⟩
theorem lw_p30 : lw_okq (⟨"ComponentContainerModel", "wanted", "(II)I"⟩, 33) := ⟨⟨by decide +kernel, by decide +kernel⟩, List.mem_of_getElem? (i := 613) (by decide +kernel), List.mem_of_getElem? (i := 819) (by decide +kernel), List.mem_of_getElem? (i := 820) (by decide +kernel)⟩
theorem lw_p31 : lw_okq (⟨"ComponentContainerModel", "directly", "(I)I"⟩, 33) := ⟨⟨by decide +kernel, by decide +kernel⟩, List.mem_of_getElem? (i := 613) (by decide +kernel), List.mem_of_getElem? (i := 827) (by decide +kernel), List.mem_of_getElem? (i := 828) (by decide +kernel)⟩
def lw_privs_2 : List (MethodName × Nat) := [(⟨"ComponentContainer", "isUnderConstruction", "(II)Z"⟩, 7), (⟨"ComponentContainer", "inject", "(III)I"⟩, 7), (⟨"ComponentContainer", "obtainEach", "(II)I"⟩, 7), (⟨"ComponentContainer", "complete", "(III)I"⟩, 7), (⟨"ComponentContainer", "requireInstance", "(I)V"⟩, 7), (⟨"ComponentContainerModel", "isComponent", "(I)Z"⟩, 33), (⟨"ComponentContainerModel", "of", "(II)I"⟩, 33), (⟨"ComponentContainerModel", "dependAt", "(III)I"⟩, 33), (⟨"ComponentContainerModel", "candidatesFor", "(II)I"⟩, 33), (⟨"ComponentContainerModel", "isActive", "(I)Z"⟩, 33), (⟨"ComponentContainerModel", "choose", "(II)I"⟩, 33), (⟨"ComponentContainerModel", "push", "(I)V"⟩, 33), (⟨"ComponentContainerModel", "wouldGoOn", "()I"⟩, 33), (⟨"ComponentContainerModel", "isInFrames", "(I)Z"⟩, 33), (⟨"ComponentContainerModel", "wanted", "(II)I"⟩, 33), (⟨"ComponentContainerModel", "directly", "(I)I"⟩, 33)]
theorem lw_r2 : ∀ q ∈ lw_privs_2, lw_okq q := List.forall_mem_cons.mpr ⟨lw_p16, List.forall_mem_cons.mpr ⟨lw_p17, List.forall_mem_cons.mpr ⟨lw_p18, List.forall_mem_cons.mpr ⟨lw_p19, List.forall_mem_cons.mpr ⟨lw_p20, List.forall_mem_cons.mpr ⟨lw_p21, List.forall_mem_cons.mpr ⟨lw_p22, List.forall_mem_cons.mpr ⟨lw_p23, List.forall_mem_cons.mpr ⟨lw_p24, List.forall_mem_cons.mpr ⟨lw_p25, List.forall_mem_cons.mpr ⟨lw_p26, List.forall_mem_cons.mpr ⟨lw_p27, List.forall_mem_cons.mpr ⟨lw_p28, List.forall_mem_cons.mpr ⟨lw_p29, List.forall_mem_cons.mpr ⟨lw_p30, List.forall_mem_cons.mpr ⟨lw_p31, fun _ h => absurd h List.not_mem_nil⟩⟩⟩⟩⟩⟩⟩⟩⟩⟩⟩⟩⟩⟩⟩⟩
theorem lw_p32 : lw_okq (⟨"ComponentContainerModel", "request", "(II)I"⟩, 33) := ⟨⟨by decide +kernel, by decide +kernel⟩, List.mem_of_getElem? (i := 613) (by decide +kernel), List.mem_of_getElem? (i := 835) (by decide +kernel), List.mem_of_getElem? (i := 836) (by decide +kernel)⟩
theorem lw_p33 : lw_okq (⟨"ComponentContainerModel", "clean", "()V"⟩, 33) := ⟨⟨by decide +kernel, by decide +kernel⟩, List.mem_of_getElem? (i := 613) (by decide +kernel), List.mem_of_getElem? (i := 839) (by decide +kernel), List.mem_of_getElem? (i := 840) (by decide +kernel)⟩
theorem lw_p34 : lw_okq (⟨"ComponentContainerModel", "fail", "(II)V"⟩, 33) := ⟨⟨by decide +kernel, by decide +kernel⟩, List.mem_of_getElem? (i := 613) (by decide +kernel), List.mem_of_getElem? (i := 843) (by decide +kernel), List.mem_of_getElem? (i := 844) (by decide +kernel)⟩
theorem lw_p35 : lw_okq (⟨"ComponentContainerModel", "make", "(I)V"⟩, 33) := ⟨⟨by decide +kernel, by decide +kernel⟩, List.mem_of_getElem? (i := 613) (by decide +kernel), List.mem_of_getElem? (i := 847) (by decide +kernel), List.mem_of_getElem? (i := 848) (by decide +kernel)⟩
theorem lw_p36 : lw_okq (⟨"ComponentContainerModel", "obtain", "(I)V"⟩, 33) := ⟨⟨by decide +kernel, by decide +kernel⟩, List.mem_of_getElem? (i := 613) (by decide +kernel), List.mem_of_getElem? (i := 851) (by decide +kernel), List.mem_of_getElem? (i := 852) (by decide +kernel)⟩
theorem lw_p37 : lw_okq (⟨"ComponentContainerModel", "living", "(II)I"⟩, 33) := ⟨⟨by decide +kernel, by decide +kernel⟩, List.mem_of_getElem? (i := 613) (by decide +kernel), List.mem_of_getElem? (i := 855) (by decide +kernel), List.mem_of_getElem? (i := 856) (by decide +kernel)⟩
theorem lw_p38 : lw_okq (⟨"ComponentContainerModel", "construct", "(II)V"⟩, 33) := ⟨⟨by decide +kernel, by decide +kernel⟩, List.mem_of_getElem? (i := 613) (by decide +kernel), List.mem_of_getElem? (i := 859) (by decide +kernel), List.mem_of_getElem? (i := 860) (by decide +kernel)⟩
theorem lw_p39 : lw_okq (⟨"ComponentContainerModel", "goOn", "()V"⟩, 33) := ⟨⟨by decide +kernel, by decide +kernel⟩, List.mem_of_getElem? (i := 613) (by decide +kernel), List.mem_of_getElem? (i := 863) (by decide +kernel), List.mem_of_getElem? (i := 864) (by decide +kernel)⟩
theorem lw_p40 : lw_okq (⟨"ComponentContainerModel", "receive", "(I)V"⟩, 33) := ⟨⟨by decide +kernel, by decide +kernel⟩, List.mem_of_getElem? (i := 613) (by decide +kernel), List.mem_of_getElem? (i := 867) (by decide +kernel), List.mem_of_getElem? (i := 868) (by decide +kernel)⟩
theorem lw_p41 : lw_okq (⟨"ComponentContainerModel", "inject", "(II)V"⟩, 33) := ⟨⟨by decide +kernel, by decide +kernel⟩, List.mem_of_getElem? (i := 613) (by decide +kernel), List.mem_of_getElem? (i := 871) (by decide +kernel), List.mem_of_getElem? (i := 872) (by decide +kernel)⟩
theorem lw_p42 : lw_okq (⟨"ComponentContainerModel", "complete", "(I)V"⟩, 33) := ⟨⟨by decide +kernel, by decide +kernel⟩, List.mem_of_getElem? (i := 613) (by decide +kernel), List.mem_of_getElem? (i := 875) (by decide +kernel), List.mem_of_getElem? (i := 876) (by decide +kernel)⟩
theorem lw_p43 : lw_okq (⟨"ComponentContainerModel", "note", "(I)V"⟩, 33) := ⟨⟨by decide +kernel, by decide +kernel⟩, List.mem_of_getElem? (i := 613) (by decide +kernel), List.mem_of_getElem? (i := 879) (by decide +kernel), List.mem_of_getElem? (i := 880) (by decide +kernel)⟩
theorem lw_p44 : lw_okq (⟨"ComponentContainerModel", "serve", "(I)V"⟩, 33) := ⟨⟨by decide +kernel, by decide +kernel⟩, List.mem_of_getElem? (i := 613) (by decide +kernel), List.mem_of_getElem? (i := 883) (by decide +kernel), List.mem_of_getElem? (i := 884) (by decide +kernel)⟩
theorem lw_p45 : lw_okq (⟨"ComponentContainerModel", "settle", "(I)Z"⟩, 33) := ⟨⟨by decide +kernel, by decide +kernel⟩, List.mem_of_getElem? (i := 613) (by decide +kernel), List.mem_of_getElem? (i := 887) (by decide +kernel), List.mem_of_getElem? (i := 888) (by decide +kernel)⟩
theorem lw_p46 : lw_okq (⟨"ComponentContainerModel", "destroy", "(I)V"⟩, 33) := ⟨⟨by decide +kernel, by decide +kernel⟩, List.mem_of_getElem? (i := 613) (by decide +kernel), List.mem_of_getElem? (i := 891) (by decide +kernel), List.mem_of_getElem? (i := 892) (by decide +kernel)⟩
theorem lw_p47 : lw_okq (⟨"ComponentContainerModel", "isInstance", "(I)Z"⟩, 33) := ⟨⟨by decide +kernel, by decide +kernel⟩, List.mem_of_getElem? (i := 613) (by decide +kernel), List.mem_of_getElem? (i := 899) (by decide +kernel), List.mem_of_getElem? (i := 900) (by decide +kernel)⟩
def lw_privs_3 : List (MethodName × Nat) := [(⟨"ComponentContainerModel", "request", "(II)I"⟩, 33), (⟨"ComponentContainerModel", "clean", "()V"⟩, 33), (⟨"ComponentContainerModel", "fail", "(II)V"⟩, 33), (⟨"ComponentContainerModel", "make", "(I)V"⟩, 33), (⟨"ComponentContainerModel", "obtain", "(I)V"⟩, 33), (⟨"ComponentContainerModel", "living", "(II)I"⟩, 33), (⟨"ComponentContainerModel", "construct", "(II)V"⟩, 33), (⟨"ComponentContainerModel", "goOn", "()V"⟩, 33), (⟨"ComponentContainerModel", "receive", "(I)V"⟩, 33), (⟨"ComponentContainerModel", "inject", "(II)V"⟩, 33), (⟨"ComponentContainerModel", "complete", "(I)V"⟩, 33), (⟨"ComponentContainerModel", "note", "(I)V"⟩, 33), (⟨"ComponentContainerModel", "serve", "(I)V"⟩, 33), (⟨"ComponentContainerModel", "settle", "(I)Z"⟩, 33), (⟨"ComponentContainerModel", "destroy", "(I)V"⟩, 33), (⟨"ComponentContainerModel", "isInstance", "(I)Z"⟩, 33)]
theorem lw_r3 : ∀ q ∈ lw_privs_3, lw_okq q := List.forall_mem_cons.mpr ⟨lw_p32, List.forall_mem_cons.mpr ⟨lw_p33, List.forall_mem_cons.mpr ⟨lw_p34, List.forall_mem_cons.mpr ⟨lw_p35, List.forall_mem_cons.mpr ⟨lw_p36, List.forall_mem_cons.mpr ⟨lw_p37, List.forall_mem_cons.mpr ⟨lw_p38, List.forall_mem_cons.mpr ⟨lw_p39, List.forall_mem_cons.mpr ⟨lw_p40, List.forall_mem_cons.mpr ⟨lw_p41, List.forall_mem_cons.mpr ⟨lw_p42, List.forall_mem_cons.mpr ⟨lw_p43, List.forall_mem_cons.mpr ⟨lw_p44, List.forall_mem_cons.mpr ⟨lw_p45, List.forall_mem_cons.mpr ⟨lw_p46, List.forall_mem_cons.mpr ⟨lw_p47, fun _ h => absurd h List.not_mem_nil⟩⟩⟩⟩⟩⟩⟩⟩⟩⟩⟩⟩⟩⟩⟩⟩
theorem lw_p48 : lw_okq (⟨"ComponentContainerModel", "isLater", "(II)Z"⟩, 33) := ⟨⟨by decide +kernel, by decide +kernel⟩, List.mem_of_getElem? (i := 613) (by decide +kernel), List.mem_of_getElem? (i := 903) (by decide +kernel), List.mem_of_getElem? (i := 904) (by decide +kernel)⟩
theorem lw_p49 : lw_okq (⟨"ComponentContainerModel", "endScope", "()I"⟩, 33) := ⟨⟨by decide +kernel, by decide +kernel⟩, List.mem_of_getElem? (i := 613) (by decide +kernel), List.mem_of_getElem? (i := 919) (by decide +kernel), List.mem_of_getElem? (i := 920) (by decide +kernel)⟩
def lw_privs_4 : List (MethodName × Nat) := [(⟨"ComponentContainerModel", "isLater", "(II)Z"⟩, 33), (⟨"ComponentContainerModel", "endScope", "()I"⟩, 33)]
theorem lw_r4 : ∀ q ∈ lw_privs_4, lw_okq q := List.forall_mem_cons.mpr ⟨lw_p48, List.forall_mem_cons.mpr ⟨lw_p49, fun _ h => absurd h List.not_mem_nil⟩⟩
def lw_privs : List (MethodName × Nat) := lw_privs_1 ++ (lw_privs_2 ++ (lw_privs_3 ++ (lw_privs_4)))
def lw_tbl : List Cond := k2_sels lw_privs ++ tables_1
theorem lw_privs_ok : ∀ q ∈ lw_privs, lw_okq q := by
  show ∀ q ∈ lw_privs_1 ++ (lw_privs_2 ++ (lw_privs_3 ++ (lw_privs_4))), lw_okq q
  exact List.forall_mem_append.mpr ⟨lw_r1, List.forall_mem_append.mpr ⟨lw_r2, List.forall_mem_append.mpr ⟨lw_r3, lw_r4⟩⟩⟩

/-! ===== BEGIN words of one list among another's, by their places ===== -/
theorem goodIn_r {big : List Cond} (ws : List Cond) (ps : List Nat) (hp : ws = ps.filterMap (fun i => big[i]?)) (h : ws.all goodWord = true) : GoodIn big ws := by
  intro w hw
  have h1 := List.all_eq_true.mp h w hw
  rw [hp] at hw
  obtain ⟨i, -, hi⟩ := List.mem_filterMap.mp hw
  have hm : w ∈ big := by first | exact List.mem_of_getElem? hi | exact List.getElem?_mem hi
  exact ⟨hm, good_of_word h1⟩
theorem goodIn_app {big a b : List Cond} (ha : GoodIn big a) (hb : GoodIn big b) : GoodIn big (a ++ b) := fun w h => (List.mem_append.mp h).elim (ha w) (hb w)
theorem goodIn_ca {big a b : List Cond} {c : Cond} (ha : GoodIn big (c :: a)) (hb : GoodIn big b) : GoodIn big (c :: (a ++ b)) := fun w h => (List.mem_cons.mp h).elim (fun e => ha w (List.mem_cons.mpr (Or.inl e))) (fun h => (List.mem_append.mp h).elim (fun h => ha w (List.mem_cons.mpr (Or.inr h))) (hb w))
theorem goodIn_sub {big ws : List Cond} (hm : ∀ w ∈ ws, w ∈ big) (h : ws.all goodWord = true) : GoodIn big ws := fun w hw => ⟨hm w hw, good_of_word (List.all_eq_true.mp h w hw)⟩
/-! ===== END ===== -/



/-! ===== BEGIN exceptions that leave a method, and their catching by the caller (launches without stack traces) ===== -/
section VXA
/-! The laws vx_back, vx_callV, vx_callS, vx_callSW, vx_throw0, vx_throwS follow proofs of the library, with one case more: JvmDerived/Free/Laws.lean (Back.of_free), Shelf42/LK1.lean (callV, callS), Shelf/KitTraced.lean (throwNew0V, throwNewS). -/
/-- where a method has thrown q: the class by its name, the cell, what was written, the world -/
def vx_T (XC : String → State → State → Prop) (st : State) (q : Addr) (t : State) (mc ms : Nat) (free : Addr → Prop) : Prop :=
  ∃ (E : String) (ce : Cell) (L : List Loc), XC E st t ∧ t.heap[q]? = some ce ∧ ce.vm = .none ∧ st.vm.findClass E = some ce.cls ∧ st.WarmedH t.vm ∧ st.sameButNew ({ t with vm := st.vm } : State) L mc ms ∧ ∀ z ∈ L, free z.base
def vx_Q (Qc : Array Value → State → Outcome → State → Prop) (XC : String → State → State → Prop) (mc ms : Nat) (free : Addr → Prop) : Array Value → State → Outcome → State → Prop := fun a st o t =>
  (Qc a st o t ∧ ∃ L, FrameEnd st o t L mc ms ∧ ∀ q ∈ L, free q.base) ∨ ∃ q, o = .threw q ∧ vx_T XC st q t mc ms free
/-- a callee that returns or throws -/
def vx_Met (l : Launch) (y : MethodName) (ws : List Cond) (rm : Room) (Pc : Array Value → State → Prop) (Qc : Array Value → State → Outcome → State → Prop) (XC : String → State → State → Prop) (mc ms : Nat) (free : Addr → Prop) : Prop :=
  MetFree l y (headSpec ws rm) Pc (fun _ _ _ _ _ => True) (vx_Q Qc XC mc ms free)
def vx_Post (XC : String → State → State → Prop) (mc ms : Nat) (free : Addr → Prop) : Pt → Array Value → Addr → Pt → Prop := fun A a q B =>
  ∃ (g : JFrame) (mk : MethodId) (t : State) (L : List Loc) (E : String) (ce : Cell), B.U.heap = t.heap ∧ B.U.vm = t.vm ∧ XC E (A.U.calling g mk a) t ∧ t.heap[q]? = some ce ∧ ce.vm = .none ∧ A.U.vm.findClass E = some ce.cls ∧ B.locs = A.locs ++ L ∧ (∀ z ∈ L, free z.base) ∧ B.cells = A.cells + mc ∧ B.slots = A.slots + ms
def vx_Back (l : Launch) (R : Room) (p : Program) (e : Env) (below : List Frame) (s : State) (sargs : Array Value) (y : MethodName) (len W9 : Nat)
    (Pre : Pt → Array Value → Prop) (Post : Pt → Array Value → Option Value → Pt → Prop) (PostX : Pt → Array Value → Addr → Pt → Prop) : Prop :=
  ∀ (m : MethodId) (meth : Method) (c : Code) (A : Pt) (g : JFrame) (ig : Instr) (mk : MethodId) (a : Array Value),
    Stand p l e R s m sargs below meth c A.U A.locs A.cells A.slots → g.method = m → g.locals.size = c.maxLocals → decode c.code g.pc = .ok (ig, len) →
    2 * g.monitorRoom + (g.stack.map fun v => v.category).sum ≤ W9 → A.U.methodNamed? y = some mk → Pre A a →
    (∃ (v : Option Value) (B : Pt), Stand p l e R s m sargs below meth c B.U B.locs B.cells B.slots ∧ Post A a v B ∧
      Steps p.tables e below (doInvoke e (A.U.setTop g) [] mk a).1 (B.U.setTop { g with pc := g.pc + len, stack := v.toList ++ g.stack })) ∨
    (∃ (q : Addr) (B : Pt), Stand p l e R s m sargs below meth c B.U B.locs B.cells B.slots ∧ PostX A a q B ∧
      Steps p.tables e below (doInvoke e (A.U.setTop g) [] mk a).1 ((B.U.setTop g).pushFrame (.throwing q)))
section Payer
variable {l : Launch} {R : Room} {p : Program} {e : Env} {below : List Frame} {s : State} {sargs : Array Value} {y : MethodName} {len W9 : Nat}
theorem vx_back {ws : List Cond} {rm : Room} {Pc : Array Value → State → Prop} {Qc : Array Value → State → Outcome → State → Prop} {XC : String → State → State → Prop} {mc ms : Nat} {free : Addr → Prop} {bytes : ByteArray} {maxL : Nat} {ret : Option FieldType}
    (hM : vx_Met l y ws rm Pc Qc XC mc ms free) (hblind : FrameBlind Pc) (hrc : rm.cells = mc) (hrs : rm.slots = ms)
    (hframes : rm.frames + 1 ≤ R.frames) (hlocals : W9 + (maxL + 11) + rm.locals ≤ R.locals)
    (hws : ∀ w ∈ ws, ∀ a' U, s.WarmedH U.vm → w.before a' U = true) (hcode : Cond.code y bytes maxL ret ∈ ws) (hinit : ∀ a' U, s.WarmedH U.vm → (Cond.initialized y.cls).before a' U = true) :
    vx_Back l R p e below s sargs y len W9 (PreOf R mc ms Pc) (PostOf Qc mc ms free) (vx_Post XC mc ms free) := by
  intro m meth c A g ig mk a X hg hsize hdg hW hn hp
  have h1 : (headSpec ws rm).pre.before a A.U = true := atoms_intro fun w hw => hws w hw _ _ X.warmed
  have h2 : (Cond.code y bytes maxL ret).before a A.U = true := hws _ hcode _ _ X.warmed
  have h3 : (Cond.initialized y.cls).before a A.U = true := hinit _ _ X.warmed
  have h4 : A.cells + (headSpec ws rm).room.cells ≤ R.cells := by rw [show (headSpec ws rm).room.cells = mc from hrc]; exact hp.1
  have h5 : A.slots + (headSpec ws rm).room.slots ≤ R.slots := by rw [show (headSpec ws rm).room.slots = ms from hrs]; exact hp.2.1
  have hPc : Pc a (A.U.calling g mk a) := hblind _ _ _ _ hp.2.2
  obtain ⟨U, Ls, c0, s0⟩ := A
  dsimp only [Pt.U, Pt.locs, Pt.cells, Pt.slots] at h1 h2 h3 h4 h5 X hn hPc ⊢
  obtain ⟨methY, cY, hmY, hcY, -, hlY, -, -, -, -⟩ := Cond.code_spec hn h2
  obtain ⟨kY, hkY, -⟩ := className_of_methodNamed hn
  have hinitY : kY.init = .initialized := Cond.initialized_spec (findClass_of_methodNamed hn) hkY h3
  have h : At U g.method c below := by rw [hg]; exact X.here
  have hlocals9 : W9 + (maxL + 11) + (headSpec ws rm).room.locals ≤ R.locals := hlocals
  have happ : (headSpec ws rm).appliesLoose y e.platform (U.calling g mk a) = true :=
    Spec.appliesLoose_calling (g := g) h hdg hn hkY hinitY
      (X.room_calling (g := g) (R' := (headSpec ws rm).room) hsize hmY hcY hframes (by rw [hlY]; omega) h4 h5) h1
  obtain ⟨mid, hmid⟩ := h.above
  have hfr : (U.setTop g).frames = (.java g :: mid) ++ below := by rw [State.frames_setTop' g h.top, hmid]; rfl
  obtain ⟨o, s₂, hsteps, -, hend, hq⟩ := Steps.callFree hM p X.admits X.cas X.clock (acts := []) hfr happ hPc trivial
  have hq' : vx_Q Qc XC mc ms free a (U.calling g mk a) o s₂ := hq
  rw [State.frames_setTop' g h.top] at hend
  obtain ⟨g₀, hg0⟩ := Option.isSome_iff_exists.mp h.top
  obtain ⟨r, hr⟩ := State.topJava?_eq_some.mp hg0
  have hr' : (({ U with heap := s₂.heap, slotsUsed := s₂.slotsUsed } : State).setVm s₂.vm).frames = .java g₀ :: r := hr
  rcases hq' with ⟨hqc, L, hfe, hL⟩ | ⟨q, rfl, E, ce, L, hx, hce, hcv, hcl, hW₂, hsm, hL⟩
  · obtain ⟨⟨v, rfl⟩, hW₂, e2, q2, q3, q4, q5, q6⟩ := id hfe
    have e3 : s₂ = ({ (U.calling g mk a).setFrames s₂.frames with heap := s₂.heap, slotsUsed := s₂.slotsUsed } : State).setVm s₂.vm := by
      have : s₂ = ({ s₂ with vm := (U.calling g mk a).vm } : State).setVm s₂.vm := rfl
      rw [e2] at this
      exact this
    obtain ⟨c₂, i₂, len₂, hc₂, hd₂, hf₂⟩ := hend
    have hW' : U.WarmedH s₂.vm := hW₂
    have hcc : c₂ = c := by
      have h1 : s₂.code? g.method = U.code? g.method := by
        rw [State.code?_eq, State.code?_eq, hW'.alike.method?]
      exact Option.some.inj (hc₂.symm.trans (h1.trans h.code))
    subst hcc
    have hlen : len₂ = len := by rw [hdg] at hd₂; cases hd₂; rfl
    subst hlen
    have hs₂ : s₂ = (({ U with heap := s₂.heap, slotsUsed := s₂.slotsUsed } : State).setVm s₂.vm).setTop { g with pc := g.pc + len₂, stack := v.toList ++ g.stack } := by
      refine e3.trans ?_
      rw [hf₂, State.calling_eq h.top, State.setFrames_setFrames, State.setTop_of_frames _ hr', hr]
      rfl
    have hsame : U.sameButNew ({ U with heap := s₂.heap, slotsUsed := s₂.slotsUsed } : State) L mc ms := by
      refine ⟨?_, q2, q3, q4, q5, q6⟩
      obtain ⟨t, ht, -⟩ := State.frames_cons hr
      show ({ U with heap := s₂.heap, slotsUsed := s₂.slotsUsed } : State) = { U.setFrames U.frames with heap := s₂.heap, slotsUsed := s₂.slotsUsed }
      rw [State.setFrames_self ht]
    subst hg
    refine Or.inl ⟨v, ⟨(({ U with heap := s₂.heap, slotsUsed := s₂.slotsUsed } : State).setVm s₂.vm), Ls ++ L, c0 + mc, s0 + ms⟩,
      ⟨X.admits, X.cas, X.clock, X.frames, X.room, X.hears, X.method, X.code, (X.here.setHeapUsed s₂.heap s₂.slotsUsed).setVm hW'.alike, X.tail, State.WarmedH.trans X.warmed hW', X.limits, X.bytes, X.same.trans (hsame.setVm s.vm)⟩,
      ⟨g, mk, s₂, L, rfl, rfl, hqc, rfl, hL, rfl, rfl⟩, ?_⟩
    show Steps p.tables e below _ ((({ U with heap := s₂.heap, slotsUsed := s₂.slotsUsed } : State).setVm s₂.vm).setTop { g with pc := g.pc + len₂, stack := v.toList ++ g.stack })
    rw [← hs₂]
    exact hsteps
  · obtain ⟨e2, q2, q3, q4, q5, q6⟩ := id hsm
    have e3 : s₂ = ({ (U.calling g mk a).setFrames s₂.frames with heap := s₂.heap, slotsUsed := s₂.slotsUsed } : State).setVm s₂.vm := by
      have : s₂ = ({ s₂ with vm := (U.calling g mk a).vm } : State).setVm s₂.vm := rfl
      rw [e2] at this
      exact this
    have hf₂ : s₂.frames = .throwing q :: .java g :: U.frames.tail := hend
    have hW' : U.WarmedH s₂.vm := hW₂
    have hs₂ : s₂ = ((({ U with heap := s₂.heap, slotsUsed := s₂.slotsUsed } : State).setVm s₂.vm).setTop g).pushFrame (.throwing q) := by
      refine e3.trans ?_
      rw [hf₂, State.calling_eq h.top, State.setFrames_setFrames, State.pushFrame, State.frames_setTop _ hr', State.setTop_of_frames _ hr', State.setFrames_setFrames, hr]
      rfl
    have hsame : U.sameButNew ({ U with heap := s₂.heap, slotsUsed := s₂.slotsUsed } : State) L mc ms := by
      refine ⟨?_, q2, q3, q4, q5, q6⟩
      obtain ⟨t, ht, -⟩ := State.frames_cons hr
      show ({ U with heap := s₂.heap, slotsUsed := s₂.slotsUsed } : State) = { U.setFrames U.frames with heap := s₂.heap, slotsUsed := s₂.slotsUsed }
      rw [State.setFrames_self ht]
    subst hg
    refine Or.inr ⟨q, ⟨(({ U with heap := s₂.heap, slotsUsed := s₂.slotsUsed } : State).setVm s₂.vm), Ls ++ L, c0 + mc, s0 + ms⟩,
      ⟨X.admits, X.cas, X.clock, X.frames, X.room, X.hears, X.method, X.code, (X.here.setHeapUsed s₂.heap s₂.slotsUsed).setVm hW'.alike, X.tail, State.WarmedH.trans X.warmed hW', X.limits, X.bytes, X.same.trans (hsame.setVm s.vm)⟩,
      ⟨g, mk, s₂, L, E, ce, rfl, rfl, hx, hce, hcv, hcl, rfl, hL, rfl, rfl⟩, ?_⟩
    show Steps p.tables e below _ (((({ U with heap := s₂.heap, slotsUsed := s₂.slotsUsed } : State).setVm s₂.vm).setTop g).pushFrame (.throwing q))
    rw [← hs₂]
    exact hsteps
end Payer
section Calls
variable {p : Program} {l : Launch} {e : Env} {R : Room} {s : State} {m : MethodId} {args : Array Value} {below : List Frame} {meth : Method} {c : Code} {T : State} {locs : List Loc} {cells slots : Nat}
theorem vx_callV (X : Stand p l e R s m args below meth c T locs cells slots) (hexec : p.tables.exec = Jvm.exec) {own C : String} {index : Nat} {y : MethodName} {bytes : ByteArray} {maxL : Nat} {ret : Option FieldType}
    (hown : s.vm.findClass own = some m.cls) (hlink : (Cond.methodLink own index y).before args s = true) (hinst : (Cond.instanceMethod y).before args s = true) (hsel : (Cond.selects C y y).before args s = true)
    (hcode : (Cond.code y bytes maxL ret).before args s = true) (hy : y.cls ≠ "java/lang/invoke/MethodHandle" ∧ y.cls ≠ "java/lang/invoke/VarHandle")
    {W9 : Nat} {Pre : Pt → Array Value → Prop} {Post : Pt → Array Value → Option Value → Pt → Prop} {PostX : Pt → Array Value → Addr → Pt → Prop} (hK : vx_Back l R p e below s args y 3 W9 Pre Post PostX)
    {b : Addr} {cellB : Cell} (hcell : T.heap[b]? = some cellB) (hobj : cellB.vm.isStatics = false) (hcls : s.vm.findClass C = some cellB.cls)
    {g : JFrame} (hg : g.method = m) (hsize : g.locals.size = c.maxLocals) {argsL rest : List Value} (hlen : ∀ sig, parseMethodDescriptor y.desc = some sig → argsL.length = sig.parameters.length)
    (hstack : g.stack = argsL.reverse ++ .ref b :: rest) (hW : 2 * g.monitorRoom + (rest.map fun v => v.category).sum ≤ W9) (hdg : decode c.code g.pc = .ok (.invokevirtual index, 3))
    (hpre : ∀ vm₁, s.WarmedH vm₁ → Pre ⟨T.setVm vm₁, locs, cells, slots⟩ (Value.ref b :: argsL).toArray) :
    (∃ (v : Option Value) (vm₁ : Vm) (B : Pt), s.WarmedH vm₁ ∧ Stand p l e R s m args below meth c B.U B.locs B.cells B.slots ∧ Post ⟨T.setVm vm₁, locs, cells, slots⟩ (Value.ref b :: argsL).toArray v B ∧
      ∀ target, Steps p.tables e below (B.U.setTop { g with pc := g.pc + 3, stack := v.toList ++ rest }) target → Steps p.tables e below (T.setTop g) target) ∨
    (∃ (q : Addr) (vm₁ : Vm) (B : Pt), s.WarmedH vm₁ ∧ Stand p l e R s m args below meth c B.U B.locs B.cells B.slots ∧ PostX ⟨T.setVm vm₁, locs, cells, slots⟩ (Value.ref b :: argsL).toArray q B ∧
      Steps p.tables e below (T.setTop g) ((B.U.setTop { g with stack := rest }).pushFrame (.throwing q))) := by
  obtain ⟨mk, methM, hnamed, hmethM, hstM, habM⟩ := Cond.instanceMethod_spec hinst
  obtain ⟨methM', cM, hmethM', -, -, -, -, -, -, hsigM⟩ := Cond.code_spec hnamed hcode
  cases hmethM.symm.trans hmethM'
  obtain ⟨c2, r2, m2, q1, q2, q3, q4, kP, hkP, hkPi⟩ := Cond.selects_spec hsel
  cases hcls.symm.trans q1
  cases (State.methodFound?_of_named hnamed hy).symm.trans q2
  cases hnamed.symm.trans q3
  have hselP : selectMethod e.platform s.vm cellB.cls mk = .method mk := by rw [Launch.admits_selectMethod X.admits]; exact q4
  obtain ⟨vm₁, X₁, hstep₁⟩ := X.invokevirtual hexec hown hlink hnamed hmethM hstM hkP hkPi hy (a := b) (cell := cellB) hcell
    (fun z h => by rw [h] at hobj; cases hobj) hselP hmethM habM hkP hkPi (g := g) hg (argsL := argsL) (rest := rest) (hlen _ hsigM) hstack hdg
  rcases hK m meth c ⟨T.setVm vm₁, locs, cells, slots⟩ { g with stack := rest } (.invokevirtual index) mk (Value.ref b :: argsL).toArray X₁ hg hsize hdg hW (X₁.named hnamed) (hpre vm₁ X₁.warmed) with ⟨v, B, X', hpost, hsteps⟩ | ⟨q, B, X', hpost, hsteps⟩
  · exact Or.inl ⟨v, vm₁, B, X₁.warmed, X', hpost, fun target h => hstep₁ _ fun acts => by rw [doInvoke_state]; exact hsteps.trans h⟩
  · exact Or.inr ⟨q, vm₁, B, X₁.warmed, X', hpost, hstep₁ _ fun acts => by rw [doInvoke_state]; exact hsteps⟩
theorem vx_callS (X : Stand p l e R s m args below meth c T locs cells slots) (hexec : p.tables.exec = Jvm.exec) {own : String} {index : Nat} {y : MethodName} {bytes : ByteArray} {maxL : Nat} {ret : Option FieldType}
    (hown : s.vm.findClass own = some m.cls) (hlink : (Cond.methodLink own index y).before args s = true) (hstat : (Cond.static y).before args s = true) (hinit : (Cond.initialized y.cls).before args s = true)
    (hcode : (Cond.code y bytes maxL ret).before args s = true) (hy : y.cls ≠ "java/lang/invoke/MethodHandle" ∧ y.cls ≠ "java/lang/invoke/VarHandle")
    {W9 : Nat} {Pre : Pt → Array Value → Prop} {Post : Pt → Array Value → Option Value → Pt → Prop} {PostX : Pt → Array Value → Addr → Pt → Prop} (hK : vx_Back l R p e below s args y 3 W9 Pre Post PostX)
    {g : JFrame} (hg : g.method = m) (hsize : g.locals.size = c.maxLocals) {argsL rest : List Value} (hlen : ∀ sig, parseMethodDescriptor y.desc = some sig → argsL.length = sig.parameters.length)
    (hstack : g.stack = argsL.reverse ++ rest) (hW : 2 * g.monitorRoom + (rest.map fun v => v.category).sum ≤ W9) (hdg : decode c.code g.pc = .ok (.invokestatic index, 3))
    (hpre : ∀ vm₁, s.WarmedH vm₁ → Pre ⟨T.setVm vm₁, locs, cells, slots⟩ argsL.toArray) :
    (∃ (v : Option Value) (vm₁ : Vm) (B : Pt), s.WarmedH vm₁ ∧ Stand p l e R s m args below meth c B.U B.locs B.cells B.slots ∧ Post ⟨T.setVm vm₁, locs, cells, slots⟩ argsL.toArray v B ∧
      ∀ target, Steps p.tables e below (B.U.setTop { g with pc := g.pc + 3, stack := v.toList ++ rest }) target → Steps p.tables e below (T.setTop g) target) ∨
    (∃ (q : Addr) (vm₁ : Vm) (B : Pt), s.WarmedH vm₁ ∧ Stand p l e R s m args below meth c B.U B.locs B.cells B.slots ∧ PostX ⟨T.setVm vm₁, locs, cells, slots⟩ argsL.toArray q B ∧
      Steps p.tables e below (T.setTop g) ((B.U.setTop { g with stack := rest }).pushFrame (.throwing q))) := by
  obtain ⟨mk, hnamed⟩ := Cond.code_named hcode
  obtain ⟨methM, cM, hmethM, -, -, -, -, -, -, hsigM⟩ := Cond.code_spec hnamed hcode
  have hstatic : methM.isStatic = true := Cond.static_spec hnamed hmethM hstat
  obtain ⟨kP, hkP, -⟩ := className_of_methodNamed hnamed
  have hinitP : kP.init = .initialized := Cond.initialized_spec (findClass_of_methodNamed hnamed) hkP hinit
  obtain ⟨vm₁, X₁, hstep₁⟩ := X.invokestatic hexec hown hlink hnamed hmethM hstatic hkP hinitP hy (g := g) hg (argsL := argsL) (rest := rest) (hlen _ hsigM) hstack hdg
  rcases hK m meth c ⟨T.setVm vm₁, locs, cells, slots⟩ { g with stack := rest } (.invokestatic index) mk argsL.toArray X₁ hg hsize hdg hW (X₁.named hnamed) (hpre vm₁ X₁.warmed) with ⟨v, B, X', hpost, hsteps⟩ | ⟨q, B, X', hpost, hsteps⟩
  · exact Or.inl ⟨v, vm₁, B, X₁.warmed, X', hpost, fun target h => hstep₁ _ fun acts => by rw [doInvoke_state]; exact hsteps.trans h⟩
  · exact Or.inr ⟨q, vm₁, B, X₁.warmed, X', hpost, hstep₁ _ fun acts => by rw [doInvoke_state]; exact hsteps⟩
end Calls
theorem vx_cls {s : State} {T : State} {vm₁ : Vm} {E : String} {k : ClassId} (hW : s.WarmedH vm₁) (h : (T.setVm vm₁).vm.findClass E = some k) : s.vm.findClass E = some k := by
  have h1 : vm₁.findClass E = some k := h
  rw [hW.alike.findClass] at h1
  exact h1
/-- the method's frame g, with q thrown over it -/
def vx_W (p : Program) (l : Launch) (e : Env) (R : Room) (s : State) (m : MethodId) (args : Array Value) (below : List Frame) (meth : Method) (c : Code) (H : Heap) (locs : List Loc) (cells slots : Nat) (Q : State → Prop) (g : JFrame) (q : Addr) : Prop :=
  ∀ T : State, T.heap = H → Stand p l e R s m args below meth c T locs cells slots → ∃ t, Steps p.tables e below ((T.setTop g).pushFrame (.throwing q)) t ∧ Q t
def vx_Run (p : Program) (l : Launch) (e : Env) (R : Room) (s : State) (m : MethodId) (args : Array Value) (below : List Frame) (meth : Method) (c : Code) (H : Heap) (locs : List Loc) (cells slots mc ms : Nat) (g : JFrame) (rest : List Value) (Qa : State → Outcome → State → Prop) (XC : String → State → State → Prop) (free : Addr → Prop) : Prop :=
  ∀ T : State, T.heap = H → Stand p l e R s m args below meth c T locs cells slots →
    (∃ (v : Option Value) (st₀ t T' : State) (L : List Loc), st₀.heap = H ∧ Stand p l e R s m args below meth c T' (locs ++ L) (cells + mc) (slots + ms) ∧ (∀ q ∈ L, free q.base) ∧ T'.heap = t.heap ∧ T'.vm = t.vm ∧ Qa st₀ (.returned v) t ∧
      Goes p e below T g T' { g with pc := g.pc + 3, stack := v.toList ++ rest }) ∨
    (∃ (q : Addr) (st₀ t T' : State) (L : List Loc) (E : String) (ce : Cell), st₀.heap = H ∧ Stand p l e R s m args below meth c T' (locs ++ L) (cells + mc) (slots + ms) ∧ (∀ z ∈ L, free z.base) ∧ T'.heap = t.heap ∧ T'.vm = t.vm ∧ XC E st₀ t ∧ t.heap[q]? = some ce ∧ ce.vm = .none ∧ s.vm.findClass E = some ce.cls ∧
      Steps p.tables e below (T.setTop g) ((T'.setTop { g with stack := rest }).pushFrame (.throwing q)))
def vx_X {S : Type} (px : S → Prop) (B : String → S → State → Prop) (A : Nat → Prop) : String → State → State → Prop := fun E st t => ∃ u : S, px u ∧ B E u t ∧ va_F A st t
section Runs
variable {p : Program} {l : Launch} {e : Env} {R : Room} {s : State} {m : MethodId} {args : Array Value} {below : List Frame} {meth : Method} {c : Code} {H : Heap} {locs : List Loc} {cells slots : Nat}
variable {y : MethodName} {bytes cc : ByteArray} {maxL nL mc ms n index : Nat} {ret : Option FieldType} {ws : List Cond} {rm : Room} {Pc : Array Value → State → Prop} {Qc : Array Value → State → Outcome → State → Prop} {XC : String → State → State → Prop} {free : Addr → Prop} {Ts : List Cond} {own C : String} {b : Addr} {As rest : List Value} {g : JFrame}
theorem vx_callBack (cb : CallB R s args own index y bytes maxL ret ws rm mc ms n) (hM : vx_Met l y ws rm Pc Qc XC mc ms free) (hbl : FrameBlind Pc) : vx_Back l R p e below s args y 3 8 (PreOf R mc ms Pc) (PostOf Qc mc ms free) (vx_Post XC mc ms free) := by
  obtain ⟨hrc, hrs, hfr, hlo, hws, hcw, -, hini, -⟩ := cb
  exact vx_back (bytes := bytes) (maxL := maxL) (ret := ret) hM hbl hrc hrs hfr hlo hws hcw (fun a' U hW => word_at hW (Or.inl (by first | rfl | simp [Cond.onTables, Cond.keeps, Cond.steady])) hini)
theorem vx_runV (S : CallFix p m c cc nL s args Ts own) (hM : vx_Met l y ws rm Pc Qc XC mc ms free) (cw : CallW R s args own C index y bytes maxL ret ws rm mc ms n) (hp : PreV s H C b Pc As)
    (hg : g.method = m) (hn : As.length = n) (hsize : g.locals.size = nL) (hstack : g.stack = As.reverse ++ .ref b :: rest) (hW : 2 * g.monitorRoom + (rest.map fun v => v.category).sum ≤ 8) (hdg : decode cc g.pc = .ok (.invokevirtual index, 3)) (hf : cells + mc ≤ R.cells ∧ slots + ms ≤ R.slots) :
    vx_Run p l e R s m args below meth c H locs cells slots mc ms g rest (Qc (Value.ref b :: As).toArray) XC free := by
  have hK : vx_Back l R p e below s args y 3 8 (PreOf R mc ms Pc) (PostOf Qc mc ms free) (vx_Post XC mc ms free) := vx_callBack cw.1 hM hp.1
  obtain ⟨⟨-, -, -, -, -, -, hcode, -, hy, hlen, hl⟩, hin, hse⟩ := cw
  obtain ⟨hx, hb, hml, ho, -⟩ := S
  obtain ⟨-, ⟨cellB, hcB, hoB, hclB⟩, hPc⟩ := hp
  intro T hT X
  rcases vx_callV X hx (C := C) (bytes := bytes) (maxL := maxL) (ret := ret) ho hl hin hse hcode hy hK (by rw [hT]; exact hcB) hoB hclB hg (hsize.trans hml.symm) (argsL := As) (rest := rest) (fun sig h => hn.trans (hlen sig h)) hstack hW (by rw [hb]; exact hdg)
    (fun vm₁ hW₁ => ⟨hf.1, hf.2, hPc (T.setVm vm₁) hT hW₁⟩) with ⟨v, vm₁, ⟨U', l2, c2, s2⟩, hW₁, X', ⟨g', mk, t, L, e1, e2, hq, h1, hL, h2, h3⟩, st⟩ | ⟨q, vm₁, ⟨U', l2, c2, s2⟩, hW₁, X', ⟨g', mk, t, L, E, ce, e1, e2, hq, hce, hcv, hcl, h1, hL, h2, h3⟩, st⟩
  · dsimp only [Pt.U, Pt.locs, Pt.cells, Pt.slots] at X' e1 e2 h1 h2 h3 st
    subst h1; subst h2; subst h3
    exact Or.inl ⟨v, (T.setVm vm₁).calling g' mk (Value.ref b :: As).toArray, t, U', L, hT, X', hL, e1, e2, hq, st⟩
  · dsimp only [Pt.U, Pt.locs, Pt.cells, Pt.slots] at X' e1 e2 h1 h2 h3 st hcl
    subst h1; subst h2; subst h3
    exact Or.inr ⟨q, (T.setVm vm₁).calling g' mk (Value.ref b :: As).toArray, t, U', L, E, ce, hT, X', hL, e1, e2, hq, hce, hcv, vx_cls hW₁ hcl, st⟩
theorem vx_runS (S : CallFix p m c cc nL s args Ts own) (hM : vx_Met l y ws rm Pc Qc XC mc ms free) (cw : CallB R s args own index y bytes maxL ret ws rm mc ms n ∧ (Cond.static y).before args s = true) (hp : PreS s H Pc As)
    (hg : g.method = m) (hn : As.length = n) (hsize : g.locals.size = nL) (hstack : g.stack = As.reverse ++ rest) (hW : 2 * g.monitorRoom + (rest.map fun v => v.category).sum ≤ 8) (hdg : decode cc g.pc = .ok (.invokestatic index, 3)) (hf : cells + mc ≤ R.cells ∧ slots + ms ≤ R.slots) :
    vx_Run p l e R s m args below meth c H locs cells slots mc ms g rest (Qc As.toArray) XC free := by
  have hK : vx_Back l R p e below s args y 3 8 (PreOf R mc ms Pc) (PostOf Qc mc ms free) (vx_Post XC mc ms free) := vx_callBack cw.1 hM hp.1
  obtain ⟨⟨-, -, -, -, -, -, hcode, hini, hy, hlen, hl⟩, hstt⟩ := cw
  obtain ⟨hx, hb, hml, ho, -⟩ := S
  intro T hT X
  rcases vx_callS X hx (bytes := bytes) (maxL := maxL) (ret := ret) ho hl hstt hini hcode hy hK hg (hsize.trans hml.symm) (argsL := As) (rest := rest) (fun sig h => hn.trans (hlen sig h)) hstack hW (by rw [hb]; exact hdg)
    (fun vm₁ hW₁ => ⟨hf.1, hf.2, hp.2 (T.setVm vm₁) hT hW₁⟩) with ⟨v, vm₁, ⟨U', l2, c2, s2⟩, hW₁, X', ⟨g', mk, t, L, e1, e2, hq, h1, hL, h2, h3⟩, st⟩ | ⟨q, vm₁, ⟨U', l2, c2, s2⟩, hW₁, X', ⟨g', mk, t, L, E, ce, e1, e2, hq, hce, hcv, hcl, h1, hL, h2, h3⟩, st⟩
  · dsimp only [Pt.U, Pt.locs, Pt.cells, Pt.slots] at X' e1 e2 h1 h2 h3 st
    subst h1; subst h2; subst h3
    exact Or.inl ⟨v, (T.setVm vm₁).calling g' mk As.toArray, t, U', L, hT, X', hL, e1, e2, hq, st⟩
  · dsimp only [Pt.U, Pt.locs, Pt.cells, Pt.slots] at X' e1 e2 h1 h2 h3 st hcl
    subst h1; subst h2; subst h3
    exact Or.inr ⟨q, (T.setVm vm₁).calling g' mk As.toArray, t, U', L, E, ce, hT, X', hL, e1, e2, hq, hce, hcv, vx_cls hW₁ hcl, st⟩
end Runs
section Rows
variable {p : Program} {l : Launch} {e : Env} {R : Room} {s : State} {m : MethodId} {args : Array Value} {below : List Frame} {meth : Method} {c : Code} {H : Heap} {locs : List Loc} {cells slots : Nat} {Q : State → Prop}
variable {mc ms : Nat} {free : Addr → Prop} {A0 A1 : Nat → Prop} {H0 : Heap} {a : Array Value} {pc : Nat} {ls : Array Slot} {st0 rest : List Value}
theorem vx_keep {st₀ t T' : State} {L : List Loc} (h0 : st₀.heap = H) (e1 : T'.heap = t.heap) (hS : va_S A0 H0 H locs) (hA : ∀ q, q < H.size → A1 q → A0 q) (hf : ∀ q, free q → A0 q) (hL : ∀ q ∈ L, free q.base) (hF : va_F A1 st₀ t) :
    H.size ≤ T'.heap.size ∧ (∀ q : Nat, q < H.size → ¬ A1 q → T'.heap[q]? = H[q]?) ∧ va_S A0 H0 T'.heap (locs ++ L) := by
  obtain ⟨hz, hk⟩ := hF
  rw [h0] at hz hk
  exact ⟨by rw [e1]; exact hz, fun q h1 h2 => by rw [e1]; exact hk q h1 h2,
    ⟨Nat.le_trans hS.1 (by rw [e1]; exact hz), fun q h1 h2 => by rw [e1, hk q (Nat.lt_of_lt_of_le h1 hS.1) (fun z => h2 (hA q (Nat.lt_of_lt_of_le h1 hS.1) z))]; exact hS.2.1 q h1 h2, fun q hq => by
      rcases List.mem_append.mp hq with h | h
      · exact hS.2.2 q h
      · exact hf _ (hL q h)⟩⟩
theorem vx_calli {S SX : Type} {post : Int32 → S → Prop} {px : SX → Prop} {B : S → State → Prop} {BX : String → SX → State → Prop} {AX : Nat → Prop} (hr : vx_Run p l e R s m args below meth c H locs cells slots mc ms (F0 m pc ls st0) rest (va_Qi post B A1 a) (vx_X px BX AX) free) (hS : va_S A0 H0 H locs) (hA : ∀ q, q < H.size → A1 q → A0 q) (hf : ∀ q, free q → A0 q) (hAX : ∀ q, q < H.size → AX q → A0 q)
    (kx : ∀ (E : String) (ce : Cell) (q9 : Addr) (u : SX) (t : State) (H1 : Heap) (locs1 : List Loc), t.heap = H1 → s.vm.Alike t.vm → px u → BX E u t → H.size ≤ H1.size → (∀ q : Nat, q < H.size → ¬ AX q → H1[q]? = H[q]?) → va_S A0 H0 H1 locs1 → H1[q9]? = some ce → ce.vm = .none → s.vm.findClass E = some ce.cls → vx_W p l e R s m args below meth c H1 locs1 (cells + mc) (slots + ms) Q (F0 m pc ls rest) q9)
    (kk : ∀ (r : Int32) (u : S) (t : State) (H1 : Heap) (locs1 : List Loc), t.heap = H1 → s.vm.Alike t.vm → post r u → B u t → H.size ≤ H1.size → (∀ q : Nat, q < H.size → ¬ A1 q → H1[q]? = H[q]?) → va_S A0 H0 H1 locs1 → W p l e R s m args below meth c H1 locs1 (cells + mc) (slots + ms) Q (F0 m (pc + 3) ls (.int r :: rest))) : W p l e R s m args below meth c H locs cells slots Q (F0 m pc ls st0) := by
  intro T hT X
  rcases hr T hT X with ⟨v, st₀, t, T', L, h0, X', hL, e1, e2, ⟨⟨r, u, hv, hp, hb⟩, hF⟩, st⟩ | ⟨q, st₀, t, T', L, E, ce, h0, X', hL, e1, e2, ⟨u, hp, hb, hF⟩, hce, hcv, hcl, st⟩
  · cases hv
    obtain ⟨k1, k2, k3⟩ := vx_keep h0 e1 hS hA hf hL hF
    obtain ⟨t2, a1, b1⟩ := kk r u t T'.heap (locs ++ L) e1.symm (by rw [← e2]; exact X'.warmed.alike) hp hb k1 k2 k3 T' rfl X'
    exact ⟨t2, st t2 a1, b1⟩
  · obtain ⟨k1, k2, k3⟩ := vx_keep h0 e1 hS hAX hf hL hF
    obtain ⟨t2, a1, b1⟩ := kx E ce q u t T'.heap (locs ++ L) e1.symm (by rw [← e2]; exact X'.warmed.alike) hp hb k1 k2 k3 (by rw [e1]; exact hce) hcv hcl T' rfl X'
    exact ⟨t2, st.trans a1, b1⟩
theorem vx_calll {S SX : Type} {post : Int64 → S → Prop} {px : SX → Prop} {B : S → State → Prop} {BX : String → SX → State → Prop} {AX : Nat → Prop} (hr : vx_Run p l e R s m args below meth c H locs cells slots mc ms (F0 m pc ls st0) rest (va_Ql post B A1 a) (vx_X px BX AX) free) (hS : va_S A0 H0 H locs) (hA : ∀ q, q < H.size → A1 q → A0 q) (hf : ∀ q, free q → A0 q) (hAX : ∀ q, q < H.size → AX q → A0 q)
    (kx : ∀ (E : String) (ce : Cell) (q9 : Addr) (u : SX) (t : State) (H1 : Heap) (locs1 : List Loc), t.heap = H1 → s.vm.Alike t.vm → px u → BX E u t → H.size ≤ H1.size → (∀ q : Nat, q < H.size → ¬ AX q → H1[q]? = H[q]?) → va_S A0 H0 H1 locs1 → H1[q9]? = some ce → ce.vm = .none → s.vm.findClass E = some ce.cls → vx_W p l e R s m args below meth c H1 locs1 (cells + mc) (slots + ms) Q (F0 m pc ls rest) q9)
    (kk : ∀ (r : Int64) (u : S) (t : State) (H1 : Heap) (locs1 : List Loc), t.heap = H1 → s.vm.Alike t.vm → post r u → B u t → H.size ≤ H1.size → (∀ q : Nat, q < H.size → ¬ A1 q → H1[q]? = H[q]?) → va_S A0 H0 H1 locs1 → W p l e R s m args below meth c H1 locs1 (cells + mc) (slots + ms) Q (F0 m (pc + 3) ls (.long r :: rest))) : W p l e R s m args below meth c H locs cells slots Q (F0 m pc ls st0) := by
  intro T hT X
  rcases hr T hT X with ⟨v, st₀, t, T', L, h0, X', hL, e1, e2, ⟨⟨r, u, hv, hp, hb⟩, hF⟩, st⟩ | ⟨q, st₀, t, T', L, E, ce, h0, X', hL, e1, e2, ⟨u, hp, hb, hF⟩, hce, hcv, hcl, st⟩
  · cases hv
    obtain ⟨k1, k2, k3⟩ := vx_keep h0 e1 hS hA hf hL hF
    obtain ⟨t2, a1, b1⟩ := kk r u t T'.heap (locs ++ L) e1.symm (by rw [← e2]; exact X'.warmed.alike) hp hb k1 k2 k3 T' rfl X'
    exact ⟨t2, st t2 a1, b1⟩
  · obtain ⟨k1, k2, k3⟩ := vx_keep h0 e1 hS hAX hf hL hF
    obtain ⟨t2, a1, b1⟩ := kx E ce q u t T'.heap (locs ++ L) e1.symm (by rw [← e2]; exact X'.warmed.alike) hp hb k1 k2 k3 (by rw [e1]; exact hce) hcv hcl T' rfl X'
    exact ⟨t2, st.trans a1, b1⟩
theorem vx_callf {S SX : Type} {post : UInt32 → S → Prop} {px : SX → Prop} {B : S → State → Prop} {BX : String → SX → State → Prop} {AX : Nat → Prop} (hr : vx_Run p l e R s m args below meth c H locs cells slots mc ms (F0 m pc ls st0) rest (va_Qf post B A1 a) (vx_X px BX AX) free) (hS : va_S A0 H0 H locs) (hA : ∀ q, q < H.size → A1 q → A0 q) (hf : ∀ q, free q → A0 q) (hAX : ∀ q, q < H.size → AX q → A0 q)
    (kx : ∀ (E : String) (ce : Cell) (q9 : Addr) (u : SX) (t : State) (H1 : Heap) (locs1 : List Loc), t.heap = H1 → s.vm.Alike t.vm → px u → BX E u t → H.size ≤ H1.size → (∀ q : Nat, q < H.size → ¬ AX q → H1[q]? = H[q]?) → va_S A0 H0 H1 locs1 → H1[q9]? = some ce → ce.vm = .none → s.vm.findClass E = some ce.cls → vx_W p l e R s m args below meth c H1 locs1 (cells + mc) (slots + ms) Q (F0 m pc ls rest) q9)
    (kk : ∀ (r : UInt32) (u : S) (t : State) (H1 : Heap) (locs1 : List Loc), t.heap = H1 → s.vm.Alike t.vm → post r u → B u t → H.size ≤ H1.size → (∀ q : Nat, q < H.size → ¬ A1 q → H1[q]? = H[q]?) → va_S A0 H0 H1 locs1 → W p l e R s m args below meth c H1 locs1 (cells + mc) (slots + ms) Q (F0 m (pc + 3) ls (.float r :: rest))) : W p l e R s m args below meth c H locs cells slots Q (F0 m pc ls st0) := by
  intro T hT X
  rcases hr T hT X with ⟨v, st₀, t, T', L, h0, X', hL, e1, e2, ⟨⟨r, u, hv, hp, hb⟩, hF⟩, st⟩ | ⟨q, st₀, t, T', L, E, ce, h0, X', hL, e1, e2, ⟨u, hp, hb, hF⟩, hce, hcv, hcl, st⟩
  · cases hv
    obtain ⟨k1, k2, k3⟩ := vx_keep h0 e1 hS hA hf hL hF
    obtain ⟨t2, a1, b1⟩ := kk r u t T'.heap (locs ++ L) e1.symm (by rw [← e2]; exact X'.warmed.alike) hp hb k1 k2 k3 T' rfl X'
    exact ⟨t2, st t2 a1, b1⟩
  · obtain ⟨k1, k2, k3⟩ := vx_keep h0 e1 hS hAX hf hL hF
    obtain ⟨t2, a1, b1⟩ := kx E ce q u t T'.heap (locs ++ L) e1.symm (by rw [← e2]; exact X'.warmed.alike) hp hb k1 k2 k3 (by rw [e1]; exact hce) hcv hcl T' rfl X'
    exact ⟨t2, st.trans a1, b1⟩
theorem vx_calld {S SX : Type} {post : UInt64 → S → Prop} {px : SX → Prop} {B : S → State → Prop} {BX : String → SX → State → Prop} {AX : Nat → Prop} (hr : vx_Run p l e R s m args below meth c H locs cells slots mc ms (F0 m pc ls st0) rest (va_Qd post B A1 a) (vx_X px BX AX) free) (hS : va_S A0 H0 H locs) (hA : ∀ q, q < H.size → A1 q → A0 q) (hf : ∀ q, free q → A0 q) (hAX : ∀ q, q < H.size → AX q → A0 q)
    (kx : ∀ (E : String) (ce : Cell) (q9 : Addr) (u : SX) (t : State) (H1 : Heap) (locs1 : List Loc), t.heap = H1 → s.vm.Alike t.vm → px u → BX E u t → H.size ≤ H1.size → (∀ q : Nat, q < H.size → ¬ AX q → H1[q]? = H[q]?) → va_S A0 H0 H1 locs1 → H1[q9]? = some ce → ce.vm = .none → s.vm.findClass E = some ce.cls → vx_W p l e R s m args below meth c H1 locs1 (cells + mc) (slots + ms) Q (F0 m pc ls rest) q9)
    (kk : ∀ (r : UInt64) (u : S) (t : State) (H1 : Heap) (locs1 : List Loc), t.heap = H1 → s.vm.Alike t.vm → post r u → B u t → H.size ≤ H1.size → (∀ q : Nat, q < H.size → ¬ A1 q → H1[q]? = H[q]?) → va_S A0 H0 H1 locs1 → W p l e R s m args below meth c H1 locs1 (cells + mc) (slots + ms) Q (F0 m (pc + 3) ls (.double r :: rest))) : W p l e R s m args below meth c H locs cells slots Q (F0 m pc ls st0) := by
  intro T hT X
  rcases hr T hT X with ⟨v, st₀, t, T', L, h0, X', hL, e1, e2, ⟨⟨r, u, hv, hp, hb⟩, hF⟩, st⟩ | ⟨q, st₀, t, T', L, E, ce, h0, X', hL, e1, e2, ⟨u, hp, hb, hF⟩, hce, hcv, hcl, st⟩
  · cases hv
    obtain ⟨k1, k2, k3⟩ := vx_keep h0 e1 hS hA hf hL hF
    obtain ⟨t2, a1, b1⟩ := kk r u t T'.heap (locs ++ L) e1.symm (by rw [← e2]; exact X'.warmed.alike) hp hb k1 k2 k3 T' rfl X'
    exact ⟨t2, st t2 a1, b1⟩
  · obtain ⟨k1, k2, k3⟩ := vx_keep h0 e1 hS hAX hf hL hF
    obtain ⟨t2, a1, b1⟩ := kx E ce q u t T'.heap (locs ++ L) e1.symm (by rw [← e2]; exact X'.warmed.alike) hp hb k1 k2 k3 (by rw [e1]; exact hce) hcv hcl T' rfl X'
    exact ⟨t2, st.trans a1, b1⟩
theorem vx_callv {S SX : Type} {post : S → Prop} {px : SX → Prop} {B : S → State → Prop} {BX : String → SX → State → Prop} {AX : Nat → Prop} (hr : vx_Run p l e R s m args below meth c H locs cells slots mc ms (F0 m pc ls st0) rest (va_Qv post B A1 a) (vx_X px BX AX) free) (hS : va_S A0 H0 H locs) (hA : ∀ q, q < H.size → A1 q → A0 q) (hf : ∀ q, free q → A0 q) (hAX : ∀ q, q < H.size → AX q → A0 q)
    (kx : ∀ (E : String) (ce : Cell) (q9 : Addr) (u : SX) (t : State) (H1 : Heap) (locs1 : List Loc), t.heap = H1 → s.vm.Alike t.vm → px u → BX E u t → H.size ≤ H1.size → (∀ q : Nat, q < H.size → ¬ AX q → H1[q]? = H[q]?) → va_S A0 H0 H1 locs1 → H1[q9]? = some ce → ce.vm = .none → s.vm.findClass E = some ce.cls → vx_W p l e R s m args below meth c H1 locs1 (cells + mc) (slots + ms) Q (F0 m pc ls rest) q9)
    (kk : ∀ (u : S) (t : State) (H1 : Heap) (locs1 : List Loc), t.heap = H1 → s.vm.Alike t.vm → post u → B u t → H.size ≤ H1.size → (∀ q : Nat, q < H.size → ¬ A1 q → H1[q]? = H[q]?) → va_S A0 H0 H1 locs1 → W p l e R s m args below meth c H1 locs1 (cells + mc) (slots + ms) Q (F0 m (pc + 3) ls (rest))) : W p l e R s m args below meth c H locs cells slots Q (F0 m pc ls st0) := by
  intro T hT X
  rcases hr T hT X with ⟨v, st₀, t, T', L, h0, X', hL, e1, e2, ⟨⟨u, hv, hp, hb⟩, hF⟩, st⟩ | ⟨q, st₀, t, T', L, E, ce, h0, X', hL, e1, e2, ⟨u, hp, hb, hF⟩, hce, hcv, hcl, st⟩
  · cases hv
    obtain ⟨k1, k2, k3⟩ := vx_keep h0 e1 hS hA hf hL hF
    obtain ⟨t2, a1, b1⟩ := kk u t T'.heap (locs ++ L) e1.symm (by rw [← e2]; exact X'.warmed.alike) hp hb k1 k2 k3 T' rfl X'
    exact ⟨t2, st t2 a1, b1⟩
  · obtain ⟨k1, k2, k3⟩ := vx_keep h0 e1 hS hAX hf hL hF
    obtain ⟨t2, a1, b1⟩ := kx E ce q u t T'.heap (locs ++ L) e1.symm (by rw [← e2]; exact X'.warmed.alike) hp hb k1 k2 k3 (by rw [e1]; exact hce) hcv hcl T' rfl X'
    exact ⟨t2, st.trans a1, b1⟩
/-- caught by the row x of this method's table; the rows ahead don't take it -/
theorem vx_catch {own name : String} {E : String} {ce : Cell} {q : Addr} (hown : s.vm.findClass own = some m.cls) (pre : List ExceptionTableEntry) (x : ExceptionTableEntry) (suf : List ExceptionTableEntry) (hsplit : c.exceptionTable.toList = pre ++ x :: suf)
    (hpass : ∀ z ∈ pre, covers z pc = false ∨ (z.catchType ≠ 0 ∧ ∃ nm : String, (Cond.classLink own z.catchType nm).before args s = true ∧ va_Nc E nm s)) (hx : covers x pc = true) (h0 : x.catchType ≠ 0)
    (hlink : (Cond.classLink own x.catchType name).before args s = true) (hcast : (Cond.castable E name).before args s = true) (hcell : H[q]? = some ce) (hv : ce.vm = .none) (hcl : s.vm.findClass E = some ce.cls)
    (kk : W p l e R s m args below meth c H locs cells slots Q (F0 m x.handlerPc ls [.ref q])) : vx_W p l e R s m args below meth c H locs cells slots Q (F0 m pc ls rest) q := by
  intro T hT X
  have hpl : e.platform.magicAccessors = ({} : Platform).magicAccessors := by rw [X.admits.platform]
  obtain ⟨c3, c4, hc3, hc4, hasg⟩ := Cond.castable_spec hcast
  cases Option.some.inj (hc3.symm.trans hcl)
  obtain ⟨c5, hc5, hcl5⟩ := Cond.classLink_spec hown hlink e.platform hpl
  cases Option.some.inj (hc4.symm.trans hc5)
  obtain ⟨vm', X', st⟩ := X.thenCaughtThrough q (g := F0 m pc ls rest) rfl (Steps.refl _) (by rw [hT]; exact hcell) (by rw [hv]; rfl) (by obtain ⟨k9, h9, -⟩ := Vm.findClass_spec hcl; exact ⟨k9, h9⟩) pre x suf hsplit
    (fun z hz => by
      rcases hpass z hz with h | ⟨hz0, nm, hl1, hn1⟩
      · exact Or.inl h
      · obtain ⟨c6, hc6, hcl6⟩ := Cond.classLink_spec hown hl1 e.platform hpl
        obtain ⟨a8, b8, h1, h2, h3⟩ := hn1
        cases Option.some.inj (h1.symm.trans hcl)
        cases Option.some.inj (h2.symm.trans hc6)
        exact Or.inr ⟨hz0, _, hcl6, h3⟩) hx (Or.inr ⟨h0, c4, hcl5, hasg⟩)
  obtain ⟨t, a1, b1⟩ := kk (T.setVm vm') hT X'
  exact ⟨t, st.trans a1, b1⟩
end Rows
section Ends
variable {p : Program} {l : Launch} {e : Env} {R : Room} {s : State} {m : MethodId} {args : Array Value} {below : List Frame} {meth : Method} {c : Code} {H : Heap} {locs : List Loc} {cells slots : Nat} {Q : State → Prop}
variable {mc ms : Nat} {free : Addr → Prop} {A0 A1 : Nat → Prop} {H0 : Heap} {a : Array Value} {ls : Array Slot} {st0 rest : List Value}
variable {Qc : Array Value → State → Outcome → State → Prop} {XC : String → State → State → Prop}
/-- what a body that may throw owes at its end -/
def vx_MQ (below : List Frame) (Qc : Array Value → State → Outcome → State → Prop) (XC : String → State → State → Prop) (a : Array Value) (s : State) (mc ms : Nat) (free : Addr → Prop) : State → Prop := fun t =>
  ∃ o, t.status = .running ∧ Ended t below o ∧ vx_Q Qc XC mc ms free a s o t
theorem vx_ret {g : JFrame} {mc ms : Nat} (k : W p l e R s m args below meth c H locs cells slots (MQ below Qc args s mc ms free) g) : W p l e R s m args below meth c H locs cells slots (vx_MQ below Qc XC args s mc ms free) g := by
  intro T hT X
  obtain ⟨t, a1, o, b1, b2, b3, b4⟩ := k T hT X
  exact ⟨t, a1, o, b1, b2, Or.inl ⟨b3, b4⟩⟩
/-- not caught here: it goes on to the caller -/
theorem vx_widen {g : JFrame} {q : Addr} {k n : Nat} (h1 : cells ≤ k) (h2 : slots ≤ n) (kk : vx_W p l e R s m args below meth c H locs k n Q g q) : vx_W p l e R s m args below meth c H locs cells slots Q g q := fun T hT X => kk T hT (stand_widen X h1 h2)
theorem vx_out {pc : Nat} {E : String} {ce : Cell} {q : Addr} {mc ms : Nat} (hout : ∀ x ∈ c.exceptionTable.toList, covers x pc = false) (hlocks : meth.locks = false) (hcell : H[q]? = some ce) (hv : ce.vm = .none) (hcl : s.vm.findClass E = some ce.cls)
    (hx : ∀ t : State, t.heap = H → s.vm.Alike t.vm → XC E s t) (hf : ∀ z ∈ locs, free z.base) (hc : cells ≤ mc) (hs : slots ≤ ms) :
    vx_W p l e R s m args below meth c H locs cells slots (vx_MQ below Qc XC args s mc ms free) (F0 m pc ls rest) q := by
  intro T hT X
  obtain ⟨st1, hrun, hend, hW, hsm⟩ := X.leaveThrown q (g := F0 m pc ls rest) rfl rfl rfl hout hlocks
  have hcell9 : (T.setFrames (.throwing q :: below)).heap[q]? = some ce := by
    show T.heap[q]? = some ce
    rw [hT]; exact hcell
  exact ⟨_, st1, .threw q, hrun, hend, Or.inr ⟨q, rfl, E, ce, locs, hx _ hT hW.alike, hcell9, hv, hcl, hW, hsm.mono hc hs, hf⟩⟩
theorem vx_frame {U : State} {k n : Nat} (h : s.sameButNew ({ U with vm := s.vm } : State) locs k n) : s.heap.size ≤ U.heap.size ∧ ∀ q : Nat, q < s.heap.size → (∀ z ∈ locs, z.base ≠ q) → U.heap[q]? = s.heap[q]? := by
  obtain ⟨-, h2, -, -, -, h6⟩ := h
  refine ⟨h2, fun q hq hz => ?_⟩
  obtain ⟨c9, e1, e2, e3, e4⟩ := h6 q _ (Array.getElem?_eq_getElem hq)
  have hs : c9.slots = (s.heap[q]).slots := Array.ext_getElem? fun i => e4 i fun hm => hz _ hm rfl
  have h9 : c9 = s.heap[q] := by
    rw [hs] at e2
    exact e2
  have e5 : U.heap[q]? = some c9 := e1
  rw [e5, h9, Array.getElem?_eq_getElem hq]
/-- the words of a throw but the four that speak of the heap -/
def vx_no (w : Cond) : Bool := decide (w ≠ .isRef (.static Bundle.tN "UNASSIGNED_STACK" Bundle.steD)) && decide (w ≠ .isRef (.static Bundle.tN "SUPPRESSED_SENTINEL" Bundle.listD)) && decide (w ≠ .laysStatic Bundle.tN "UNASSIGNED_STACK" Bundle.steD) && decide (w ≠ .laysStatic Bundle.tN "SUPPRESSED_SENTINEL" Bundle.listD)
def vx_at0 (own : String) (ic : Nat) (X : String) (names : List String) : List Cond := (Bundle.ownAtoms0 own ic X names).filter vx_no
def vx_atS (own : String) (ic : Nat) (X : String) (names : List String) : List Cond := (Bundle.ownAtoms own ic X names).filter vx_no
/-- a word that the tables alone decide, or a good one -/
def vx_ot (w : Cond) : Bool := w.onTables || goodWord w
theorem vx_ot_at {args a' : Array Value} {s U : State} {w : Cond} (hW : s.WarmedH U.vm) (hvm : s.vm = U.vm) (hg : vx_ot w = true) (h : w.before args s = true) : w.before a' U = true := by
  simp only [vx_ot, Bool.or_eq_true] at hg
  rcases hg with hg | hg
  · exact va_tabs hg hvm h
  · exact word_at hW (good_of_word hg) h
/-- a list's words: the good ones out of the method's own list, the others by premises of their own -/
theorem vx_hat {args : Array Value} {s : State} {L B : List Cond} (h1 : ∀ w ∈ L.filter goodWord, w.before args s = true) (h2 : ∀ w ∈ L.filter (fun w => !goodWord w), w ∈ B) (h3 : ∀ w ∈ B, w.before args s = true) : ∀ w ∈ L, w.before args s = true := by
  intro w hw
  by_cases g : goodWord w = true
  · exact h1 w (List.mem_filter.mpr ⟨hw, g⟩)
  · refine h3 w (h2 w (List.mem_filter.mpr ⟨hw, ?_⟩))
    show (!goodWord w) = true
    cases hgw : goodWord w
    · rfl
    · exact absurd hgw g
theorem vx_c {args : Array Value} {s : State} {w : Cond} {B : List Cond} (h : w.before args s = true) (t : ∀ w ∈ B, w.before args s = true) : ∀ w' ∈ w :: B, w'.before args s = true := fun w' h' => (List.mem_cons.mp h').elim (fun e => by rw [e]; exact h) (t w')
theorem vx_n {args : Array Value} {s : State} : ∀ w ∈ ([] : List Cond), w.before args s = true := fun _ h => nomatch h
theorem vx_own {args : Array Value} {s : State} {L : List Cond} (h1 : ∀ w ∈ L.filter vx_no, w.before args s = true)
    (hU : (Cond.isRef (.static Bundle.tN "UNASSIGNED_STACK" Bundle.steD)).before args s = true) (hN : (Cond.isRef (.static Bundle.tN "SUPPRESSED_SENTINEL" Bundle.listD)).before args s = true)
    (lU : (Cond.laysStatic Bundle.tN "UNASSIGNED_STACK" Bundle.steD).before args s = true) (lN : (Cond.laysStatic Bundle.tN "SUPPRESSED_SENTINEL" Bundle.listD).before args s = true) : ∀ w ∈ L, w.before args s = true := by
  intro w hw
  by_cases e1 : w = .isRef (.static Bundle.tN "UNASSIGNED_STACK" Bundle.steD)
  · rw [e1]; exact hU
  · by_cases e2 : w = .isRef (.static Bundle.tN "SUPPRESSED_SENTINEL" Bundle.listD)
    · rw [e2]; exact hN
    · by_cases e3 : w = .laysStatic Bundle.tN "UNASSIGNED_STACK" Bundle.steD
      · rw [e3]; exact lU
      · by_cases e4 : w = .laysStatic Bundle.tN "SUPPRESSED_SENTINEL" Bundle.listD
        · rw [e4]; exact lN
        · exact h1 w (List.mem_filter.mpr ⟨hw, by unfold vx_no; rw [decide_eq_true e1, decide_eq_true e2, decide_eq_true e3, decide_eq_true e4]; rfl⟩)
/-- where a static field lies, its class's statics cell in H -/
def vx_L (C n d : String) (A : Nat → Prop) (U : State) (H : Heap) : Prop := ∃ (c : ClassId) (k : Class) (i : Nat) (f : Field) (a : Nat) (cell : Cell), U.vm.findClass C = some c ∧ U.fieldFound? C n d = some (c, k, i, f) ∧ f.isStatic = true ∧ k.statics = some a ∧ H[a]? = some cell ∧ cell.vm.isStatics = true ∧ cell.cls = c ∧ f.slot < cell.slots.size ∧ k.staticTypes[f.slot]? = some f.type ∧ ¬ A a
theorem vx_L.moved {C n d : String} {A : Nat → Prop} {u U : State} {H : Heap} (hvm : u.vm.Alike U.vm) (h : vx_L C n d A u H) : vx_L C n d A U H := by
  obtain ⟨c, k, i, f, a, cell, h1, h2, h3, h4, h5, h6, h7, h8, h9, h10⟩ := h
  obtain ⟨k', hi', he⟩ := State.fieldFound?_setVm hvm h2
  exact ⟨c, k', i, f, a, cell, by rw [hvm.findClass]; exact h1, hi', h3, by rw [he]; exact h4, h5, h6, h7, h8, by rw [he]; exact h9, h10⟩
theorem vx_L.kept {C n d : String} {A : Nat → Prop} {U : State} {H H1 : Heap} (h : vx_L C n d A U H) (hq : ∀ a : Nat, a < H.size → ¬ A a → H1[a]? = H[a]?) : vx_L C n d A U H1 := by
  obtain ⟨c, k, i, f, a, cell, h1, h2, h3, h4, h5, h6, h7, h8, h9, h10⟩ := h
  exact ⟨c, k, i, f, a, cell, h1, h2, h3, h4, by rw [hq a (Array.getElem?_eq_some_iff.mp h5).1 h10]; exact h5, h6, h7, h8, h9, h10⟩
theorem vx_L.narrow {C n d : String} {A B : Nat → Prop} {U : State} {H : Heap} (h : vx_L C n d A U H) (hAB : ∀ q, B q → A q) : vx_L C n d B U H := by
  obtain ⟨c, k, i, f, a, cell, h1, h2, h3, h4, h5, h6, h7, h8, h9, h10⟩ := h
  exact ⟨c, k, i, f, a, cell, h1, h2, h3, h4, h5, h6, h7, h8, h9, fun z => h10 (hAB _ z)⟩
theorem vx_L.word {C n d : String} {A : Nat → Prop} {s : State} {args : Array Value} (h : vx_L C n d A s s.heap) : (Cond.laysStatic C n d).before args s = true := by
  obtain ⟨c, k, i, f, a, cell, h1, h2, h3, h4, h5, h6, h7, h8, h9, -⟩ := h
  show (Cond.laysStatic C n d).holds args s none s [] = true
  exact Cond.laysStatic_of h1 h2 h3 h4 h5 h6 h7 h8 h9
/-- .. and what it holds: null or some reference -/
def vx_Zq (C n d : String) (A : Nat → Prop) (U : State) (H : Heap) : Prop := va_Zq C n d A U H ∧ vx_L C n d A U H
theorem vx_Zq.moved {C n d : String} {A : Nat → Prop} {u U : State} {H : Heap} (hvm : u.vm.Alike U.vm) (h : vx_Zq C n d A u H) : vx_Zq C n d A U H := ⟨va_Zq.moved hvm h.1, vx_L.moved hvm h.2⟩
theorem vx_Zq.kept {C n d : String} {A : Nat → Prop} {U : State} {H H1 : Heap} (h : vx_Zq C n d A U H) (hq : ∀ a : Nat, a < H.size → ¬ A a → H1[a]? = H[a]?) : vx_Zq C n d A U H1 := ⟨va_Zq.kept h.1 hq, vx_L.kept h.2 hq⟩
theorem vx_Zq.narrow {C n d : String} {A B : Nat → Prop} {U : State} {H : Heap} (h : vx_Zq C n d A U H) (hAB : ∀ q, B q → A q) : vx_Zq C n d B U H := ⟨va_Zq.narrow h.1 hAB, vx_L.narrow h.2 hAB⟩
theorem vx_Zqof {args : Array Value} {s : State} {C n d : String} {A : Nat → Prop} (hl : (Cond.laysStatic C n d).before args s = true) (hini : (Cond.initialized C).before args s = true) (h : (Cond.isRef (.static C n d)).before args s = true) (hA : ∀ a : Nat, a < s.heap.size → ¬ A a) : vx_Zq C n d A s s.heap := by
  refine ⟨va_Zqof hl hini h hA, ?_⟩
  obtain ⟨c, k, i, f, a, cell, h1, h2, h3, h4, h5, h6, h7, h8, h9⟩ := Cond.laysStatic_spec hl
  exact ⟨c, k, i, f, a, cell, h1, h2, h3, h4, h5, h6, h7, h8, h9, hA a (Array.getElem?_eq_some_iff.mp h5).1⟩
theorem vx_isRef {C n d : String} {v : Value} {A : Nat → Prop} {s : State} {args : Array Value} (h : va_Z C n d v A s s.heap) (hv : v.isRef = true) : (Cond.isRef (.static C n d)).before args s = true := by
  obtain ⟨cf, kf, fi, f, a, cell, h1, h2, h3, h4, h5, h6, h7, -⟩ := h
  have he : (Term.static C n d).eval args s none [] s = some v := by
    simp [Term.eval, State.fieldNamed?, h1, h2, h4, h5, h6, h7]
  simp only [Cond.before, Cond.holds, Cond.value, he]
  cases v <;> simp_all [Value.isRef]
theorem vx_isRefq {C n d : String} {A : Nat → Prop} {s : State} {args : Array Value} (h : va_Zq C n d A s s.heap) : (Cond.isRef (.static C n d)).before args s = true := by
  rcases h with h | ⟨t, h⟩
  · exact vx_isRef h rfl
  · exact vx_isRef h rfl
/-- the same frame, seen from here: as if the method were called anew in this heap -/
theorem vx_rebase {T : State} (X : Stand p l e R s m args below meth c T locs cells slots) {R' : Room} (hf : R'.frames ≤ R.frames) (hl : R'.locals ≤ R.locals) (hc : cells + R'.cells ≤ R.cells) (hs : slots + R'.slots ≤ R.slots) :
    Stand p l e R' ((T.setVm s.vm).setFrames (.invoking m args :: below)) m args below meth c T [] 0 0 := by
  have htop : (T.setVm s.vm).topJava?.isSome := X.here.top
  have hF : ((T.setVm s.vm).setFrames (.invoking m args :: below)).frames = .invoking m args :: below := State.frames_setFrames _ (State.cur_lt_of_top htop)
  obtain ⟨g₀, hg0⟩ := Option.isSome_iff_exists.mp htop
  obtain ⟨r, hr⟩ := State.topJava?_eq_some.mp hg0
  have hl9 : e.platform.stackLimits (T.setVm s.vm).me = e.platform.stackLimits s.me := X.limits
  have hb9 : (T.setVm s.vm).me.stackBytes = s.me.stackBytes := X.bytes
  refine ⟨X.admits, X.cas, X.clock, hF, ?_, X.hears, X.method, X.code, X.here, X.tail, X.warmed, ?_, ?_, ?_⟩
  · have h := X.room
    have hU : ((T.setVm s.vm).setFrames (.invoking m args :: below)).localsInUse = s.localsInUse := by
      rw [State.localsInUse_invoking hF (meth := meth) (c := c) X.method X.code, State.localsInUse_invoking X.frames X.method X.code]
    simp only [State.hasRoom, Bool.and_eq_true, decide_eq_true_eq] at h ⊢
    obtain ⟨⟨⟨⟨h1, h2, h3, h4, h5, h6⟩, h7⟩, h8⟩, h9⟩ := h
    rw [X.frames, List.length_cons] at h2 h3
    have q1 := X.heapSize
    have q2 := X.used
    simp only [hF, hU, List.length_cons, State.stackLimits_setFrames, State.stackBytes_setFrames, hl9, hb9]
    refine ⟨⟨⟨⟨by omega, by omega, by omega, by omega, by omega, h6⟩, ?_⟩, ?_⟩, X.book⟩
    · show T.heap.size + R'.cells ≤ e.platform.maxCells
      omega
    · show T.slotsUsed + R'.slots ≤ e.platform.maxSlots
      omega
  · rw [State.stackLimits_setFrames]; rfl
  · rw [State.stackBytes_setFrames]; rfl
  · refine ⟨?_, Nat.le_refl _, Nat.le_refl _, ?_, ?_, fun a c9 h9 => ⟨c9, h9, rfl, rfl, fun _ _ => rfl⟩⟩
    · obtain ⟨t, ht, -⟩ := State.frames_cons hr
      show T.setVm s.vm = { ((T.setVm s.vm).setFrames (.invoking m args :: below)).setFrames (T.setVm s.vm).frames with heap := T.heap, slotsUsed := T.slotsUsed }
      rw [State.setFrames_setFrames, State.setFrames_self ht]
      rfl
    · show T.slotsUsed = T.slotsUsed + ((T.heap.toList.drop T.heap.size).map (·.slots.size)).sum
      rw [List.drop_eq_nil_of_le (Nat.le_of_eq Array.length_toList)]
      rfl
    · show ((T.heap.toList.drop T.heap.size).map (·.slots.size)).sum ≤ 0
      rw [List.drop_eq_nil_of_le (Nat.le_of_eq Array.length_toList)]
      exact Nat.le_refl _
/-- 'throw new E()': new; dup; invokespecial; athrow -/
theorem vx_throw0 {cc : ByteArray} {pc : Nat} (hexec : p.tables.exec = Jvm.exec) (hb : c.code = cc) (hl : l.stackTraces = false) {own cls : String} {names : List String} {ik ic mc ms : Nat} {A : Nat → Prop}
    (hown : s.vm.findClass own = some m.cls) (hcls : Bundle.fit cls = true) (hnames : ∀ n ∈ names, Bundle.fit n = true)
    (hk : (Cond.classLink own ik cls).before args s = true) (hini : (Cond.initialized cls).before args s = true) (hat : ∀ w ∈ vx_at0 own ic cls names, w.before args s = true)
    (hgood : ∀ w ∈ Cond.classLink own ik cls :: Cond.initialized cls :: vx_at0 own ic cls names, vx_ot w = true)
    (hU : vx_Zq Bundle.tN "UNASSIGNED_STACK" Bundle.steD A s s.heap) (hN : vx_Zq Bundle.tN "SUPPRESSED_SENTINEL" Bundle.listD A s s.heap) (hS : va_S A s.heap H locs) (hsize : ls.size = c.maxLocals)
    (d0 : decode cc pc = .ok (.new ik, 3)) (d3 : decode cc (pc + 3) = .ok (.dup, 1)) (d4 : decode cc (pc + 4) = .ok (.invokespecial ic, 3)) (d7 : decode cc (pc + 7) = .ok (.athrow, 1))
    (hout : ∀ x ∈ c.exceptionTable.toList, covers x (pc + 7) = false)
    (hRframes : names.length + 3 < R.frames) (hRlocals : (rest.map fun v => v.category).sum + (13 * (names.length + 1) + 42) ≤ R.locals) (hRcells : cells + 1 ≤ R.cells) (hRslots : slots + 6 ≤ R.slots) (hlocks : meth.locks = false)
    (hx : ∀ t : State, s.vm.Alike t.vm → H.size ≤ t.heap.size → (∀ q : Nat, q < H.size → t.heap[q]? = H[q]?) → XC cls s t)
    (hf : ∀ z ∈ locs, free z.base) (hc : cells + 1 ≤ mc) (hs : slots + 6 ≤ ms) :
    W p l e R s m args below meth c H locs cells slots (vx_MQ below Qc XC args s mc ms free) (F0 m pc ls rest) := by
  intro T hT X
  have htr : e.platform.stackTraces = false := (show e.platform.stackTraces = l.stackTraces by rw [X.admits.platform]).trans hl
  have Y := vx_rebase X (R' := { frames := R.frames, locals := R.locals, cells := 1, slots := 6 }) (Nat.le_refl _) (Nat.le_refl _) hRcells hRslots
  obtain ⟨s', hA⟩ : ∃ z, z = (T.setVm s.vm).setFrames (.invoking m args :: below) := ⟨_, rfl⟩
  rw [← hA] at Y
  have hvm : s'.vm = s.vm := by rw [hA]; rfl
  have hhp : s'.heap = H := by rw [hA]; exact hT
  have hW0 : s.WarmedH s'.vm := by rw [hvm]; exact State.WarmedH.refl s
  have hat' : ∀ w ∈ vx_at0 own ic cls names, w.before args s' = true := fun w hw => vx_ot_at hW0 hvm.symm (hgood w (List.mem_cons_of_mem _ (List.mem_cons_of_mem _ hw))) (hat w hw)
  have hk' : (Cond.classLink own ik cls).before args s' = true := vx_ot_at hW0 hvm.symm (hgood _ List.mem_cons_self) hk
  have hini' : (Cond.initialized cls).before args s' = true := vx_ot_at hW0 hvm.symm (hgood _ (List.mem_cons_of_mem _ List.mem_cons_self)) hini
  have hU' : vx_Zq Bundle.tN "UNASSIGNED_STACK" Bundle.steD A s' s'.heap := by rw [hhp]; exact vx_Zq.moved hW0.alike (hU.kept hS.2.1)
  have hN' : vx_Zq Bundle.tN "SUPPRESSED_SENTINEL" Bundle.listD A s' s'.heap := by rw [hhp]; exact vx_Zq.moved hW0.alike (hN.kept hS.2.1)
  have h : ∀ w ∈ Bundle.ownAtoms0 own ic cls names, w.before args s' = true := vx_own hat' (vx_isRefq hU'.1) (vx_isRefq hN'.1) hU'.2.word hN'.2.word
  have hown' : s'.vm.findClass own = some m.cls := by rw [hvm]; exact hown
  have hins : (Cond.instantiable cls 6).before args s' = true := h _ (by simp [Bundle.ownAtoms0])
  obtain ⟨vm₁, cX, kX, hfX, hkX, -, -, X₁, st1⟩ := Y.newCold hexec (own := own) (C := cls) (index := ik) (n := 6) hown' hk' hins hini'
    (g := F0 m pc ls rest) rfl (by rw [hb]; exact d0) (Nat.le_refl _) (Nat.le_refl _)
  generalize hT1 : (T.setVm vm₁).pushCell { cls := cX, slots := kX.instanceTypes.map defaultValue, vm := .none } = T1 at X₁ st1
  have hcat : (Value.ref T.heap.size).category = 1 := rfl
  have hcellA : T1.heap[T.heap.size]? = some (freshCell cX kX) := by rw [← hT1]; exact State.heap_pushCell_size _ _
  have d3' : decode c.code (pc + 3) = .ok (.dup, 1) := by rw [hb]; exact d3
  obtain ⟨U, hsteps, hrun, hend, hW, hsame, ce, hce, hO⟩ := X₁.ctorThrow0 hexec htr (own := own) (cls := cls) (names := names) (ic := ic) hown' hcls hnames h (fun x hx => nomatch hx) hfX hkX hcellA (by rw [hhp, hT]; exact Nat.le_refl _)
    (g := { method := m, pc := pc + 4, locals := ls, stack := .ref T.heap.size :: .ref T.heap.size :: rest, locked := none }) rfl hsize rfl rfl (rest := rest) rfl
    (by rw [hb]; exact d4) (by rw [hb]; exact d7) hout hRframes (by simp only [List.map_cons, List.sum_cons, hcat]; omega) hlocks
  obtain ⟨f1, f2⟩ := vx_frame hsame
  rw [hhp] at f1 f2
  have hWs : s.WarmedH U.vm := State.WarmedH.trans hW0 hW
  have hcl : s.vm.findClass cls = some ce.cls := by
    have h9 := hO.cls
    rw [hvm] at h9
    exact h9
  have hall : s.sameButNew ({ U with vm := s.vm } : State) locs mc ms := by
    subst hA
    obtain ⟨e1, e2⟩ := hsame
    rw [State.setFrames_setFrames] at e1
    have h2 : (T.setVm s.vm).sameButNew ({ U with vm := s.vm } : State) [] (0 + 1) (0 + 6) := ⟨e1, e2⟩
    have h3 := X.same.trans h2
    rw [List.append_nil] at h3
    exact h3.mono hc hs
  refine ⟨U, ?_, .threw T.heap.size, hrun, hend, Or.inr ⟨T.heap.size, rfl, cls, ce, locs, hx U hWs.alike f1 (fun q hq => f2 q hq (fun z hz => nomatch hz)), hce, hO.vm, hcl, hWs, hall, hf⟩⟩
  refine st1 _ ?_
  show Steps p.tables e below (T1.setTop { method := m, pc := pc + 3, locals := ls, stack := .ref T.heap.size :: rest, locked := none }) _
  jvm_step X₁.here [X₁.here.top, hexec, d3', Value.category]
  exact hsteps
/-- 'throw new E("text")': new; dup; ldc; invokespecial; athrow -/
theorem vx_throwS {cc : ByteArray} {pc : Nat} (hexec : p.tables.exec = Jvm.exec) (hb : c.code = cc) (hl : l.stackTraces = false) {own cls text : String} {names : List String} {ik is ic mc ms sa : Nat} {A : Nat → Prop}
    (hown : s.vm.findClass own = some m.cls) (hcls : Bundle.fit cls = true) (hnames : ∀ n ∈ names, Bundle.fit n = true)
    (hk : (Cond.classLink own ik cls).before args s = true) (hini : (Cond.initialized cls).before args s = true) (hstr : vk_R own is text sa s) (hat : ∀ w ∈ vx_atS own ic cls names, w.before args s = true)
    (hgood : ∀ w ∈ Cond.classLink own ik cls :: Cond.initialized cls :: vx_atS own ic cls names, vx_ot w = true)
    (hU : vx_Zq Bundle.tN "UNASSIGNED_STACK" Bundle.steD A s s.heap) (hN : vx_Zq Bundle.tN "SUPPRESSED_SENTINEL" Bundle.listD A s s.heap) (hS : va_S A s.heap H locs) (hsize : ls.size = c.maxLocals)
    (d0 : decode cc pc = .ok (.new ik, 3)) (d3 : decode cc (pc + 3) = .ok (.dup, 1)) (d4 : decode cc (pc + 4) = .ok (.ldc is, 2)) (d6 : decode cc (pc + 6) = .ok (.invokespecial ic, 3)) (d9 : decode cc (pc + 9) = .ok (.athrow, 1))
    (hout : ∀ x ∈ c.exceptionTable.toList, covers x (pc + 9) = false)
    (hRframes : names.length + 3 < R.frames) (hRlocals : (rest.map fun v => v.category).sum + (13 * (names.length + 1) + 43) ≤ R.locals) (hRcells : cells + 1 ≤ R.cells) (hRslots : slots + 6 ≤ R.slots) (hlocks : meth.locks = false)
    (hx : ∀ t : State, s.vm.Alike t.vm → H.size ≤ t.heap.size → (∀ q : Nat, q < H.size → t.heap[q]? = H[q]?) → XC cls s t)
    (hf : ∀ z ∈ locs, free z.base) (hc : cells + 1 ≤ mc) (hs : slots + 6 ≤ ms) :
    W p l e R s m args below meth c H locs cells slots (vx_MQ below Qc XC args s mc ms free) (F0 m pc ls rest) := by
  intro T hT X
  have htr : e.platform.stackTraces = false := (show e.platform.stackTraces = l.stackTraces by rw [X.admits.platform]).trans hl
  have Y := vx_rebase X (R' := { frames := R.frames, locals := R.locals, cells := 1, slots := 6 }) (Nat.le_refl _) (Nat.le_refl _) hRcells hRslots
  obtain ⟨s', hA⟩ : ∃ z, z = (T.setVm s.vm).setFrames (.invoking m args :: below) := ⟨_, rfl⟩
  rw [← hA] at Y
  have hvm : s'.vm = s.vm := by rw [hA]; rfl
  have hhp : s'.heap = H := by rw [hA]; exact hT
  have hW0 : s.WarmedH s'.vm := by rw [hvm]; exact State.WarmedH.refl s
  have hat' : ∀ w ∈ vx_atS own ic cls names, w.before args s' = true := fun w hw => vx_ot_at hW0 hvm.symm (hgood w (List.mem_cons_of_mem _ (List.mem_cons_of_mem _ hw))) (hat w hw)
  have hk' : (Cond.classLink own ik cls).before args s' = true := vx_ot_at hW0 hvm.symm (hgood _ List.mem_cons_self) hk
  have hini' : (Cond.initialized cls).before args s' = true := vx_ot_at hW0 hvm.symm (hgood _ (List.mem_cons_of_mem _ List.mem_cons_self)) hini
  have hU' : vx_Zq Bundle.tN "UNASSIGNED_STACK" Bundle.steD A s' s'.heap := by rw [hhp]; exact vx_Zq.moved hW0.alike (hU.kept hS.2.1)
  have hN' : vx_Zq Bundle.tN "SUPPRESSED_SENTINEL" Bundle.listD A s' s'.heap := by rw [hhp]; exact vx_Zq.moved hW0.alike (hN.kept hS.2.1)
  have h : ∀ w ∈ Bundle.ownAtoms own ic cls names, w.before args s' = true := vx_own hat' (vx_isRefq hU'.1) (vx_isRefq hN'.1) hU'.2.word hN'.2.word
  have hown' : s'.vm.findClass own = some m.cls := by rw [hvm]; exact hown
  have hins : (Cond.instantiable cls 6).before args s' = true := h _ (by simp [Bundle.ownAtoms])
  obtain ⟨vm₁, cX, kX, hfX, hkX, -, -, X₁, st1⟩ := Y.newCold hexec (own := own) (C := cls) (index := ik) (n := 6) hown' hk' hins hini'
    (g := F0 m pc ls rest) rfl (by rw [hb]; exact d0) (Nat.le_refl _) (Nat.le_refl _)
  generalize hT1 : (T.setVm vm₁).pushCell { cls := cX, slots := kX.instanceTypes.map defaultValue, vm := .none } = T1 at X₁ st1
  have hcat : (Value.ref T.heap.size).category = 1 := rfl
  have hcellA : T1.heap[T.heap.size]? = some (freshCell cX kX) := by rw [← hT1]; exact State.heap_pushCell_size _ _
  have d3' : decode c.code (pc + 3) = .ok (.dup, 1) := by rw [hb]; exact d3
  have d4' : decode c.code (pc + 4) = .ok (.ldc is, 2) := by rw [hb]; exact d4
  have hstr' : vk_R own is text sa s' := vk_R.warm hW0 hstr
  obtain ⟨U, hsteps, hrun, hend, hW, hsame, ce, hce, hO⟩ := X₁.ctorThrowS hexec htr (own := own) (cls := cls) (names := names) (ic := ic) hown' hcls hnames h (fun x hx => nomatch hx) hfX hkX hcellA (by rw [hhp, hT]; exact Nat.le_refl _) (msg := .ref sa) rfl
    (g := { method := m, pc := pc + 6, locals := ls, stack := .ref sa :: .ref T.heap.size :: .ref T.heap.size :: rest, locked := none }) rfl hsize rfl rfl (rest := rest) rfl
    (by rw [hb]; exact d6) (by rw [hb]; exact d9) hout hRframes (by simp only [List.map_cons, List.sum_cons, hcat]; omega) hlocks
  obtain ⟨f1, f2⟩ := vx_frame hsame
  rw [hhp] at f1 f2
  have hWs : s.WarmedH U.vm := State.WarmedH.trans hW0 hW
  have hcl : s.vm.findClass cls = some ce.cls := by
    have h9 := hO.cls
    rw [hvm] at h9
    exact h9
  have hall : s.sameButNew ({ U with vm := s.vm } : State) locs mc ms := by
    subst hA
    obtain ⟨e1, e2⟩ := hsame
    rw [State.setFrames_setFrames] at e1
    have h2 : (T.setVm s.vm).sameButNew ({ U with vm := s.vm } : State) [] (0 + 1) (0 + 6) := ⟨e1, e2⟩
    have h3 := X.same.trans h2
    rw [List.append_nil] at h3
    exact h3.mono hc hs
  refine ⟨U, ?_, .threw T.heap.size, hrun, hend, Or.inr ⟨T.heap.size, rfl, cls, ce, locs, hx U hWs.alike f1 (fun q hq => f2 q hq (fun z hz => nomatch hz)), hce, hO.vm, hcl, hWs, hall, hf⟩⟩
  refine st1 _ ?_
  show Steps p.tables e below (T1.setTop { method := m, pc := pc + 3, locals := ls, stack := .ref T.heap.size :: rest, locked := none }) _
  jvm_step X₁.here [X₁.here.top, hexec, d3', Value.category]
  exact X₁.ldcString hexec (own := own) (text := text) (index := is) (a := sa) hown' hstr'.1 hstr'.2
    (g := { method := m, pc := pc + 4, locals := ls, stack := .ref T.heap.size :: .ref T.heap.size :: rest, locked := none }) rfl d4' _ hsteps
/-- 'throw new E("text")', the text by a wide index -/
theorem vx_throwSW {cc : ByteArray} {pc : Nat} (hexec : p.tables.exec = Jvm.exec) (hb : c.code = cc) (hl : l.stackTraces = false) {own cls text : String} {names : List String} {ik is ic mc ms sa : Nat} {A : Nat → Prop}
    (hown : s.vm.findClass own = some m.cls) (hcls : Bundle.fit cls = true) (hnames : ∀ n ∈ names, Bundle.fit n = true)
    (hk : (Cond.classLink own ik cls).before args s = true) (hini : (Cond.initialized cls).before args s = true) (hstr : vk_R own is text sa s) (hat : ∀ w ∈ vx_atS own ic cls names, w.before args s = true)
    (hgood : ∀ w ∈ Cond.classLink own ik cls :: Cond.initialized cls :: vx_atS own ic cls names, vx_ot w = true)
    (hU : vx_Zq Bundle.tN "UNASSIGNED_STACK" Bundle.steD A s s.heap) (hN : vx_Zq Bundle.tN "SUPPRESSED_SENTINEL" Bundle.listD A s s.heap) (hS : va_S A s.heap H locs) (hsize : ls.size = c.maxLocals)
    (d0 : decode cc pc = .ok (.new ik, 3)) (d3 : decode cc (pc + 3) = .ok (.dup, 1)) (d4 : decode cc (pc + 4) = .ok (.ldc_w is, 3)) (d7 : decode cc (pc + 7) = .ok (.invokespecial ic, 3)) (d10 : decode cc (pc + 10) = .ok (.athrow, 1))
    (hout : ∀ x ∈ c.exceptionTable.toList, covers x (pc + 10) = false)
    (hRframes : names.length + 3 < R.frames) (hRlocals : (rest.map fun v => v.category).sum + (13 * (names.length + 1) + 43) ≤ R.locals) (hRcells : cells + 1 ≤ R.cells) (hRslots : slots + 6 ≤ R.slots) (hlocks : meth.locks = false)
    (hx : ∀ t : State, s.vm.Alike t.vm → H.size ≤ t.heap.size → (∀ q : Nat, q < H.size → t.heap[q]? = H[q]?) → XC cls s t)
    (hf : ∀ z ∈ locs, free z.base) (hc : cells + 1 ≤ mc) (hs : slots + 6 ≤ ms) :
    W p l e R s m args below meth c H locs cells slots (vx_MQ below Qc XC args s mc ms free) (F0 m pc ls rest) := by
  intro T hT X
  have htr : e.platform.stackTraces = false := (show e.platform.stackTraces = l.stackTraces by rw [X.admits.platform]).trans hl
  have Y := vx_rebase X (R' := { frames := R.frames, locals := R.locals, cells := 1, slots := 6 }) (Nat.le_refl _) (Nat.le_refl _) hRcells hRslots
  obtain ⟨s', hA⟩ : ∃ z, z = (T.setVm s.vm).setFrames (.invoking m args :: below) := ⟨_, rfl⟩
  rw [← hA] at Y
  have hvm : s'.vm = s.vm := by rw [hA]; rfl
  have hhp : s'.heap = H := by rw [hA]; exact hT
  have hW0 : s.WarmedH s'.vm := by rw [hvm]; exact State.WarmedH.refl s
  have hat' : ∀ w ∈ vx_atS own ic cls names, w.before args s' = true := fun w hw => vx_ot_at hW0 hvm.symm (hgood w (List.mem_cons_of_mem _ (List.mem_cons_of_mem _ hw))) (hat w hw)
  have hk' : (Cond.classLink own ik cls).before args s' = true := vx_ot_at hW0 hvm.symm (hgood _ List.mem_cons_self) hk
  have hini' : (Cond.initialized cls).before args s' = true := vx_ot_at hW0 hvm.symm (hgood _ (List.mem_cons_of_mem _ List.mem_cons_self)) hini
  have hU' : vx_Zq Bundle.tN "UNASSIGNED_STACK" Bundle.steD A s' s'.heap := by rw [hhp]; exact vx_Zq.moved hW0.alike (hU.kept hS.2.1)
  have hN' : vx_Zq Bundle.tN "SUPPRESSED_SENTINEL" Bundle.listD A s' s'.heap := by rw [hhp]; exact vx_Zq.moved hW0.alike (hN.kept hS.2.1)
  have h : ∀ w ∈ Bundle.ownAtoms own ic cls names, w.before args s' = true := vx_own hat' (vx_isRefq hU'.1) (vx_isRefq hN'.1) hU'.2.word hN'.2.word
  have hown' : s'.vm.findClass own = some m.cls := by rw [hvm]; exact hown
  have hins : (Cond.instantiable cls 6).before args s' = true := h _ (by simp [Bundle.ownAtoms])
  obtain ⟨vm₁, cX, kX, hfX, hkX, -, -, X₁, st1⟩ := Y.newCold hexec (own := own) (C := cls) (index := ik) (n := 6) hown' hk' hins hini'
    (g := F0 m pc ls rest) rfl (by rw [hb]; exact d0) (Nat.le_refl _) (Nat.le_refl _)
  generalize hT1 : (T.setVm vm₁).pushCell { cls := cX, slots := kX.instanceTypes.map defaultValue, vm := .none } = T1 at X₁ st1
  have hcat : (Value.ref T.heap.size).category = 1 := rfl
  have hcellA : T1.heap[T.heap.size]? = some (freshCell cX kX) := by rw [← hT1]; exact State.heap_pushCell_size _ _
  have d3' : decode c.code (pc + 3) = .ok (.dup, 1) := by rw [hb]; exact d3
  have d4' : decode c.code (pc + 4) = .ok (.ldc_w is, 3) := by rw [hb]; exact d4
  have hstr' : vk_R own is text sa s' := vk_R.warm hW0 hstr
  obtain ⟨U, hsteps, hrun, hend, hW, hsame, ce, hce, hO⟩ := X₁.ctorThrowS hexec htr (own := own) (cls := cls) (names := names) (ic := ic) hown' hcls hnames h (fun x hx => nomatch hx) hfX hkX hcellA (by rw [hhp, hT]; exact Nat.le_refl _) (msg := .ref sa) rfl
    (g := { method := m, pc := pc + 7, locals := ls, stack := .ref sa :: .ref T.heap.size :: .ref T.heap.size :: rest, locked := none }) rfl hsize rfl rfl (rest := rest) rfl
    (by rw [hb]; exact d7) (by rw [hb]; exact d10) hout hRframes (by simp only [List.map_cons, List.sum_cons, hcat]; omega) hlocks
  obtain ⟨f1, f2⟩ := vx_frame hsame
  rw [hhp] at f1 f2
  have hWs : s.WarmedH U.vm := State.WarmedH.trans hW0 hW
  have hcl : s.vm.findClass cls = some ce.cls := by
    have h9 := hO.cls
    rw [hvm] at h9
    exact h9
  have hall : s.sameButNew ({ U with vm := s.vm } : State) locs mc ms := by
    subst hA
    obtain ⟨e1, e2⟩ := hsame
    rw [State.setFrames_setFrames] at e1
    have h2 : (T.setVm s.vm).sameButNew ({ U with vm := s.vm } : State) [] (0 + 1) (0 + 6) := ⟨e1, e2⟩
    have h3 := X.same.trans h2
    rw [List.append_nil] at h3
    exact h3.mono hc hs
  refine ⟨U, ?_, .threw T.heap.size, hrun, hend, Or.inr ⟨T.heap.size, rfl, cls, ce, locs, hx U hWs.alike f1 (fun q hq => f2 q hq (fun z hz => nomatch hz)), hce, hO.vm, hcl, hWs, hall, hf⟩⟩
  refine st1 _ ?_
  show Steps p.tables e below (T1.setTop { method := m, pc := pc + 3, locals := ls, stack := .ref T.heap.size :: rest, locked := none }) _
  jvm_step X₁.here [X₁.here.top, hexec, d3', Value.category]
  exact X₁.ldcStringW hexec (own := own) (text := text) (index := is) (a := sa) hown' hstr'.1 hstr'.2
    (g := { method := m, pc := pc + 4, locals := ls, stack := .ref T.heap.size :: .ref T.heap.size :: rest, locked := none }) rfl d4' _ hsteps
end Ends
section Bodies
variable {l : Launch}
theorem vx_ofW {y : MethodName} {ws ws' : List Cond} {rm : Room} {Pc : Array Value → State → Prop} {Qc : Array Value → State → Outcome → State → Prop} {XC : String → State → State → Prop} {mc ms : Nat} {free : Addr → Prop} {cc : ByteArray} {maxL : Nat} {ret : Option FieldType}
    (hy : plainName y.cls = true) (hw : ws = Cond.code y cc maxL ret :: ws')
    (body : ∀ p e s m args below meth c s₁, BodyLoose p l y (headSpec ws rm) cc maxL ret e s m args below meth c s₁ → c.maxLocals = maxL → (∀ x ∈ c.exceptionTable.toList, False) → Pc args s →
      W p l e (headSpec ws rm).room s m args below meth c s.heap [] 0 0 (vx_MQ below Qc XC args s mc ms free) (entryFrame m args maxL)) : vx_Met l y ws rm Pc Qc XC mc ms free := by
  refine MetFree.of_bodyS (code := cc) (maxLocals := maxL) (ret := ret) hy ?_ ?_
  · intro args s m h hn
    obtain ⟨meth, c, h1, h2, h3, h4, h5, h6, -, -⟩ := Cond.code_spec hn (atoms_spec (ws := ws) h _ (by rw [hw]; exact List.mem_cons_self))
    exact ⟨meth, c, h1, h2, h3, h4, h5, h6⟩
  · intro p e s m args below meth c s₁ B hml hP _
    have hh0 : s₁.heap = s.heap := by rw [B.state]; rfl
    have ht : ∀ x ∈ c.exceptionTable.toList, False := by
      obtain ⟨meth9, c9, h1, h2, -, -, -, -, h7, -⟩ := Cond.code_spec B.named (atoms_spec (ws := ws) B.pre _ (by rw [hw]; exact List.mem_cons_self))
      cases Option.some.inj (h1.symm.trans B.method)
      cases Option.some.inj (h2.symm.trans (Stand.of_body B).code)
      intro x hx
      rw [Array.isEmpty_iff.mp h7] at hx
      cases hx
    obtain ⟨t, a1, o, b1, b2, b3⟩ := body p e s m args below meth c s₁ B hml ht hP s₁ hh0 (Stand.of_body B)
    exact ⟨t, o, a1, b1, b2, b3⟩
/-- the table of a body with handlers -/
theorem vx_table {p : Program} {x y : MethodName} {S : Spec} {cc bytes : ByteArray} {maxL maxL' : Nat} {ret ret' : Option FieldType} {e : Env} {s s₁ : State} {m : MethodId} {args : Array Value} {below : List Frame} {meth : Method} {c : Code} {hh : List (Nat × Nat × Nat × Nat)}
    (B : BodyLoose p l y S cc maxL ret e s m args below meth c s₁) (h : (Cond.codeWith y bytes maxL' ret' hh).before args s = true) : c.exceptionTable.toList = tableOf hh := by
  obtain ⟨m9, meth9, c9, hn9, h1, h2, -, -, h6, -⟩ := Cond.codeWith_spec h
  cases Option.some.inj (hn9.symm.trans B.named)
  cases Option.some.inj (h1.symm.trans B.method)
  cases Option.some.inj (h2.symm.trans (Stand.of_body B).code)
  rw [← h6, table_eq]
end Bodies
end VXA
/-! ===== END ===== -/
/-! ===== BEGIN a static call of a method with an exception table ===== -/
section VXS
variable {p : Program} {l : Launch} {e : Env} {R : Room} {s : State} {m : MethodId} {args : Array Value} {below : List Frame} {meth : Method} {c : Code} {T : State} {H : Heap} {locs : List Loc} {cells slots : Nat}
abbrev vx_CSW (R : Room) (s : State) (args : Array Value) (own : String) (index : Nat) (y : MethodName) (bytes : ByteArray) (maxL : Nat) (ret : Option FieldType) (hh : List (Nat × Nat × Nat × Nat)) (ws : List Cond) (rm : Room) (mc ms n : Nat) : Prop :=
  (rm.cells = mc ∧ rm.slots = ms ∧ rm.frames + 1 ≤ R.frames ∧ 8 + (maxL + 11) + rm.locals ≤ R.locals ∧ (∀ w ∈ ws, ∀ (a' : Array Value) (U : State), s.WarmedH U.vm → w.before a' U = true) ∧ Cond.codeWith y bytes maxL ret hh ∈ ws) ∧
  (Cond.codeWith y bytes maxL ret hh).before args s = true ∧ (Cond.initialized y.cls).before args s = true ∧ (y.cls ≠ "java/lang/invoke/MethodHandle" ∧ y.cls ≠ "java/lang/invoke/VarHandle") ∧
  (∀ sig, parseMethodDescriptor y.desc = some sig → n = sig.parameters.length) ∧ (Cond.methodLink own index y).before args s = true ∧ (Cond.static y).before args s = true
theorem vx_cwSW {own : String} {index maxL mc ms : Nat} {y : MethodName} {bytes : ByteArray} {ret : Option FieldType} {hh : List (Nat × Nat × Nat × Nat)} {Ts ws ws' : List Cond} {rm : Room} (n : Nat) (ht : ∀ w ∈ Ts, w.before args s = true) (hT : GoodIn Ts (va_wsS own index y ws)) (hw : ws = Cond.codeWith y bytes maxL ret hh :: ws') (hrc : rm.cells = mc) (hrs : rm.slots = ms)
    (hd : y.cls ≠ "java/lang/invoke/MethodHandle" ∧ y.cls ≠ "java/lang/invoke/VarHandle" ∧ (parseMethodDescriptor y.desc).map (fun d => d.parameters.length) = some n) (hR : rm.frames + 1 ≤ R.frames ∧ 8 + (maxL + 11) + rm.locals ≤ R.locals) :
    vx_CSW R s args own index y bytes maxL ret hh ws rm mc ms n := by
  have ok : ∀ w ∈ va_wsS own index y ws, w.before args s = true := fun w h => ht w (hT w h).1
  have hG : GoodIn Ts ws := fun w h => hT w (by unfold va_wsS; exact List.mem_append_right _ h)
  have hc : Cond.codeWith y bytes maxL ret hh ∈ ws := by rw [hw]; exact List.mem_cons_self
  refine ⟨⟨hrc, hrs, hR.1, hR.2, pay_in ht hG, hc⟩, ht _ (hG _ hc).1, ok _ (by simp [va_wsS]), ⟨hd.1, hd.2.1⟩, fun sig h => ?_, ok _ (by simp [va_wsS]), ok _ (by simp [va_wsS])⟩
  have h2 := hd.2.2
  rw [h] at h2
  exact (Option.some.inj h2).symm
theorem vx_callSW (X : Stand p l e R s m args below meth c T locs cells slots) (hexec : p.tables.exec = Jvm.exec) {own : String} {index : Nat} {y : MethodName} {bytes : ByteArray} {maxL : Nat} {ret : Option FieldType} {hh : List (Nat × Nat × Nat × Nat)}
    (hown : s.vm.findClass own = some m.cls) (hlink : (Cond.methodLink own index y).before args s = true) (hstat : (Cond.static y).before args s = true) (hinit : (Cond.initialized y.cls).before args s = true)
    (hcode : (Cond.codeWith y bytes maxL ret hh).before args s = true) (hy : y.cls ≠ "java/lang/invoke/MethodHandle" ∧ y.cls ≠ "java/lang/invoke/VarHandle")
    {W9 : Nat} {Pre : Pt → Array Value → Prop} {Post : Pt → Array Value → Option Value → Pt → Prop} (hK : Back l R p e below s args y 3 W9 Pre Post)
    {g : JFrame} (hg : g.method = m) (hsize : g.locals.size = c.maxLocals) {argsL rest : List Value} (hlen : ∀ sig, parseMethodDescriptor y.desc = some sig → argsL.length = sig.parameters.length)
    (hstack : g.stack = argsL.reverse ++ rest) (hW : 2 * g.monitorRoom + (rest.map fun v => v.category).sum ≤ W9) (hdg : decode c.code g.pc = .ok (.invokestatic index, 3))
    (hpre : ∀ vm₁, s.WarmedH vm₁ → Pre ⟨T.setVm vm₁, locs, cells, slots⟩ argsL.toArray) :
    ∃ (v : Option Value) (vm₁ : Vm) (B : Pt), s.WarmedH vm₁ ∧ Stand p l e R s m args below meth c B.U B.locs B.cells B.slots ∧ Post ⟨T.setVm vm₁, locs, cells, slots⟩ argsL.toArray v B ∧
      ∀ target, Steps p.tables e below (B.U.setTop { g with pc := g.pc + 3, stack := v.toList ++ rest }) target → Steps p.tables e below (T.setTop g) target := by
  obtain ⟨mk, methM, cM, hnamed, hmethM, -, -, -, -, -, -, hsigM⟩ := Cond.codeWith_spec hcode
  have hstatic : methM.isStatic = true := Cond.static_spec hnamed hmethM hstat
  obtain ⟨kP, hkP, -⟩ := className_of_methodNamed hnamed
  have hinitP : kP.init = .initialized := Cond.initialized_spec (findClass_of_methodNamed hnamed) hkP hinit
  obtain ⟨vm₁, X₁, hstep₁⟩ := X.invokestatic hexec hown hlink hnamed hmethM hstatic hkP hinitP hy (g := g) hg (argsL := argsL) (rest := rest) (hlen _ hsigM) hstack hdg
  obtain ⟨v, B, X', hpost, hsteps⟩ := hK m meth c ⟨T.setVm vm₁, locs, cells, slots⟩ { g with stack := rest } (.invokestatic index) mk argsL.toArray X₁ hg hsize hdg hW (X₁.named hnamed) (hpre vm₁ X₁.warmed)
  exact ⟨v, vm₁, B, X₁.warmed, X', hpost, fun target h => hstep₁ _ fun acts => by rw [doInvoke_state]; exact hsteps.trans h⟩
theorem vx_runSW {y : MethodName} {bytes cc : ByteArray} {maxL nL mc ms n index : Nat} {ret : Option FieldType} {hh : List (Nat × Nat × Nat × Nat)} {ws : List Cond} {rm : Room} {Pc : Array Value → State → Prop} {Qc : Array Value → State → Outcome → State → Prop} {free : Addr → Prop} {Ts : List Cond} {own : String} {As rest : List Value} {g : JFrame}
    (S : CallFix p m c cc nL s args Ts own) (hM : Met l y ws rm Pc Qc mc ms free) (cw : vx_CSW R s args own index y bytes maxL ret hh ws rm mc ms n) (hp : PreS s H Pc As)
    (hg : g.method = m) (hn : As.length = n) (hsize : g.locals.size = nL) (hstack : g.stack = As.reverse ++ rest) (hW : 2 * g.monitorRoom + (rest.map fun v => v.category).sum ≤ 8) (hdg : decode cc g.pc = .ok (.invokestatic index, 3)) (hf : cells + mc ≤ R.cells ∧ slots + ms ≤ R.slots) :
    va_Run p l e R s m args below meth c H locs cells slots mc ms g rest (Qc As.toArray) (free) := by
  obtain ⟨⟨hrc, hrs, hfr, hlo, hws, hcw⟩, hcode, hini, hy, hlen, hl, hstt⟩ := cw
  have hK : Back l R p e below s args y 3 8 (PreOf R mc ms Pc) (PostOf Qc mc ms free) := va_backW (hh := hh) (bytes := bytes) (maxL := maxL) (ret := ret) hM hp.1 hrc hrs hfr hlo hws hcw (fun a' U hW => word_at hW (Or.inl (by first | rfl | simp [Cond.onTables, Cond.keeps, Cond.steady])) hini)
  obtain ⟨hx, hb, hml, ho, -⟩ := S
  intro T hT X
  obtain ⟨v, vm₁, ⟨U', l2, c2, s2⟩, hW₁, X', ⟨g', mk, t, L, e1, e2, hq, h1, hL, h2, h3⟩, st⟩ := vx_callSW X hx (hh := hh) (bytes := bytes) (maxL := maxL) (ret := ret) ho hl hstt hini hcode hy hK hg (hsize.trans hml.symm) (argsL := As) (rest := rest) (fun sig h => hn.trans (hlen sig h)) hstack hW (by rw [hb]; exact hdg)
    (fun vm₁ hW₁ => ⟨hf.1, hf.2, hp.2 (T.setVm vm₁) hT hW₁⟩)
  dsimp only [Pt.U, Pt.locs, Pt.cells, Pt.slots] at X' e1 e2 h1 h2 h3 st
  subst h1; subst h2; subst h3
  exact ⟨v, (T.setVm vm₁).calling g' mk As.toArray, t, U', L, hT, X', hL, e1, e2, hq, st⟩
/-- not caught here, past rows that name other classes: it goes on to the caller -/
theorem vx_outP {p : Program} {l : Launch} {e : Env} {R : Room} {s : State} {m : MethodId} {args : Array Value} {below : List Frame} {meth : Method} {c : Code} {H : Heap} {locs : List Loc} {cells slots : Nat} {free : Addr → Prop} {ls : Array Slot} {rest : List Value} {Qc : Array Value → State → Outcome → State → Prop} {XC : String → State → State → Prop}
    {pc : Nat} {own E : String} {ce : Cell} {q : Addr} {mc ms : Nat} (hown : s.vm.findClass own = some m.cls) (hlocks : meth.locks = false)
    (hpass : ∀ z ∈ c.exceptionTable.toList, covers z pc = false ∨ (z.catchType ≠ 0 ∧ ∃ nm : String, (Cond.classLink own z.catchType nm).before args s = true ∧ va_Nc E nm s)) (hcell : H[q]? = some ce) (hv : ce.vm = .none) (hcl : s.vm.findClass E = some ce.cls)
    (hx : ∀ t : State, t.heap = H → s.vm.Alike t.vm → XC E s t) (hf : ∀ z ∈ locs, free z.base) (hc : cells ≤ mc) (hs : slots ≤ ms) :
    vx_W p l e R s m args below meth c H locs cells slots (vx_MQ below Qc XC args s mc ms free) (F0 m pc ls rest) q := by
  intro T hT X
  have hpl : e.platform.magicAccessors = ({} : Platform).magicAccessors := by rw [X.admits.platform]
  obtain ⟨vm', hW', X', st⟩ := X.outThrough hlocks q (g := F0 m pc ls rest) rfl rfl rfl (cell := ce) (by rw [hT]; exact hcell) (by rw [hv]; rfl)
    (by obtain ⟨k9, h9, -⟩ := Vm.findClass_spec hcl; exact ⟨k9, h9⟩) (fun z hz => by
      rcases hpass z hz with h | ⟨hz0, nm, hl1, hn1⟩
      · exact Or.inl h
      · obtain ⟨c6, hc6, hcl6⟩ := Cond.classLink_spec hown hl1 e.platform hpl
        obtain ⟨a8, b8, h1, h2, h3⟩ := hn1
        cases Option.some.inj (h1.symm.trans hcl)
        cases Option.some.inj (h2.symm.trans hc6)
        exact Or.inr ⟨hz0, _, hcl6, h3⟩)
  obtain ⟨g₀, hfr⟩ := X'.frames_eq
  have hcell9 : ((T.setVm vm').setFrames (.throwing q :: below)).heap[q]? = some ce := by
    show T.heap[q]? = some ce
    rw [hT]; exact hcell
  have hend : Ended ((T.setVm vm').setFrames (.throwing q :: below)) below (.threw q) := State.frames_setFrames _ (State.cur_lt_of_frames hfr)
  refine ⟨(T.setVm vm').setFrames (.throwing q :: below), ?_, .threw q, X'.here.running, hend, Or.inr ⟨q, rfl, E, ce, locs, hx _ hT (X'.ends _).1.alike, hcell9, hv, hcl, (X'.ends _).1, (X'.ends _).2.mono hc hs, hf⟩⟩
  rw [X.pushThrowing_eq]
  exact st
/-- a thing of a world lies in the heap -/
theorem vx_lt {D : va_G} {cl : List vw_C} {ws : va_W} {H1 : Heap} (h : va_P D cl ws H1) {k : Nat} {q : Nat × va_E} (hk : ws[k]? = some q) : q.1 < H1.size := (h k q hk).lt
end VXS
/-! ===== END ===== -/
/-! ===== BEGIN methods with a table of their own: called by a name, returning or throwing ===== -/
section VXH
/-! vx_backW, vx_callVX, vx_callSX, vx_callVW, vx_runVW, vx_runVX, vx_runSX, vx_ofWH follow the same proofs as their sisters above (Free/Laws.lean, Shelf42/LK1.lean); vx_outP calls Shelf42/NT130.lean (outThrough). -/
section
variable {l : Launch} {R : Room} {p : Program} {e : Env} {below : List Frame} {s : State} {sargs : Array Value} {y : MethodName} {len W9 : Nat}
theorem vx_backW {ws : List Cond} {rm : Room} {Pc : Array Value → State → Prop} {Qc : Array Value → State → Outcome → State → Prop} {XC : String → State → State → Prop} {mc ms : Nat} {free : Addr → Prop} {bytes : ByteArray} {maxL : Nat} {ret : Option FieldType} {hh : List (Nat × Nat × Nat × Nat)}
    (hM : vx_Met l y ws rm Pc Qc XC mc ms free) (hblind : FrameBlind Pc) (hrc : rm.cells = mc) (hrs : rm.slots = ms)
    (hframes : rm.frames + 1 ≤ R.frames) (hlocals : W9 + (maxL + 11) + rm.locals ≤ R.locals)
    (hws : ∀ w ∈ ws, ∀ a' U, s.WarmedH U.vm → w.before a' U = true) (hcode : Cond.codeWith y bytes maxL ret hh ∈ ws) (hinit : ∀ a' U, s.WarmedH U.vm → (Cond.initialized y.cls).before a' U = true) :
    vx_Back l R p e below s sargs y len W9 (PreOf R mc ms Pc) (PostOf Qc mc ms free) (vx_Post XC mc ms free) := by
  intro m meth c A g ig mk a X hg hsize hdg hW hn hp
  have h1 : (headSpec ws rm).pre.before a A.U = true := atoms_intro fun w hw => hws w hw _ _ X.warmed
  have h2 : (Cond.codeWith y bytes maxL ret hh).before a A.U = true := hws _ hcode _ _ X.warmed
  have h3 : (Cond.initialized y.cls).before a A.U = true := hinit _ _ X.warmed
  have h4 : A.cells + (headSpec ws rm).room.cells ≤ R.cells := by rw [show (headSpec ws rm).room.cells = mc from hrc]; exact hp.1
  have h5 : A.slots + (headSpec ws rm).room.slots ≤ R.slots := by rw [show (headSpec ws rm).room.slots = ms from hrs]; exact hp.2.1
  have hPc : Pc a (A.U.calling g mk a) := hblind _ _ _ _ hp.2.2
  obtain ⟨U, Ls, c0, s0⟩ := A
  dsimp only [Pt.U, Pt.locs, Pt.cells, Pt.slots] at h1 h2 h3 h4 h5 X hn hPc ⊢
  obtain ⟨m9, methY, cY, hn9, hmY, hcY, -, hlY, -⟩ := Cond.codeWith_spec h2
  cases Option.some.inj (hn9.symm.trans hn)
  obtain ⟨kY, hkY, -⟩ := className_of_methodNamed hn
  have hinitY : kY.init = .initialized := Cond.initialized_spec (findClass_of_methodNamed hn) hkY h3
  have h : At U g.method c below := by rw [hg]; exact X.here
  have hlocals9 : W9 + (maxL + 11) + (headSpec ws rm).room.locals ≤ R.locals := hlocals
  have happ : (headSpec ws rm).appliesLoose y e.platform (U.calling g mk a) = true :=
    Spec.appliesLoose_calling (g := g) h hdg hn hkY hinitY
      (X.room_calling (g := g) (R' := (headSpec ws rm).room) hsize hmY hcY hframes (by rw [hlY]; omega) h4 h5) h1
  obtain ⟨mid, hmid⟩ := h.above
  have hfr : (U.setTop g).frames = (.java g :: mid) ++ below := by rw [State.frames_setTop' g h.top, hmid]; rfl
  obtain ⟨o, s₂, hsteps, -, hend, hq⟩ := Steps.callFree hM p X.admits X.cas X.clock (acts := []) hfr happ hPc trivial
  have hq' : vx_Q Qc XC mc ms free a (U.calling g mk a) o s₂ := hq
  rw [State.frames_setTop' g h.top] at hend
  obtain ⟨g₀, hg0⟩ := Option.isSome_iff_exists.mp h.top
  obtain ⟨r, hr⟩ := State.topJava?_eq_some.mp hg0
  have hr' : (({ U with heap := s₂.heap, slotsUsed := s₂.slotsUsed } : State).setVm s₂.vm).frames = .java g₀ :: r := hr
  rcases hq' with ⟨hqc, L, hfe, hL⟩ | ⟨q, rfl, E, ce, L, hx, hce, hcv, hcl, hW₂, hsm, hL⟩
  · obtain ⟨⟨v, rfl⟩, hW₂, e2, q2, q3, q4, q5, q6⟩ := id hfe
    have e3 : s₂ = ({ (U.calling g mk a).setFrames s₂.frames with heap := s₂.heap, slotsUsed := s₂.slotsUsed } : State).setVm s₂.vm := by
      have : s₂ = ({ s₂ with vm := (U.calling g mk a).vm } : State).setVm s₂.vm := rfl
      rw [e2] at this
      exact this
    obtain ⟨c₂, i₂, len₂, hc₂, hd₂, hf₂⟩ := hend
    have hW' : U.WarmedH s₂.vm := hW₂
    have hcc : c₂ = c := by
      have h1 : s₂.code? g.method = U.code? g.method := by
        rw [State.code?_eq, State.code?_eq, hW'.alike.method?]
      exact Option.some.inj (hc₂.symm.trans (h1.trans h.code))
    subst hcc
    have hlen : len₂ = len := by rw [hdg] at hd₂; cases hd₂; rfl
    subst hlen
    have hs₂ : s₂ = (({ U with heap := s₂.heap, slotsUsed := s₂.slotsUsed } : State).setVm s₂.vm).setTop { g with pc := g.pc + len₂, stack := v.toList ++ g.stack } := by
      refine e3.trans ?_
      rw [hf₂, State.calling_eq h.top, State.setFrames_setFrames, State.setTop_of_frames _ hr', hr]
      rfl
    have hsame : U.sameButNew ({ U with heap := s₂.heap, slotsUsed := s₂.slotsUsed } : State) L mc ms := by
      refine ⟨?_, q2, q3, q4, q5, q6⟩
      obtain ⟨t, ht, -⟩ := State.frames_cons hr
      show ({ U with heap := s₂.heap, slotsUsed := s₂.slotsUsed } : State) = { U.setFrames U.frames with heap := s₂.heap, slotsUsed := s₂.slotsUsed }
      rw [State.setFrames_self ht]
    subst hg
    refine Or.inl ⟨v, ⟨(({ U with heap := s₂.heap, slotsUsed := s₂.slotsUsed } : State).setVm s₂.vm), Ls ++ L, c0 + mc, s0 + ms⟩,
      ⟨X.admits, X.cas, X.clock, X.frames, X.room, X.hears, X.method, X.code, (X.here.setHeapUsed s₂.heap s₂.slotsUsed).setVm hW'.alike, X.tail, State.WarmedH.trans X.warmed hW', X.limits, X.bytes, X.same.trans (hsame.setVm s.vm)⟩,
      ⟨g, mk, s₂, L, rfl, rfl, hqc, rfl, hL, rfl, rfl⟩, ?_⟩
    show Steps p.tables e below _ ((({ U with heap := s₂.heap, slotsUsed := s₂.slotsUsed } : State).setVm s₂.vm).setTop { g with pc := g.pc + len₂, stack := v.toList ++ g.stack })
    rw [← hs₂]
    exact hsteps
  · obtain ⟨e2, q2, q3, q4, q5, q6⟩ := id hsm
    have e3 : s₂ = ({ (U.calling g mk a).setFrames s₂.frames with heap := s₂.heap, slotsUsed := s₂.slotsUsed } : State).setVm s₂.vm := by
      have : s₂ = ({ s₂ with vm := (U.calling g mk a).vm } : State).setVm s₂.vm := rfl
      rw [e2] at this
      exact this
    have hf₂ : s₂.frames = .throwing q :: .java g :: U.frames.tail := hend
    have hW' : U.WarmedH s₂.vm := hW₂
    have hs₂ : s₂ = ((({ U with heap := s₂.heap, slotsUsed := s₂.slotsUsed } : State).setVm s₂.vm).setTop g).pushFrame (.throwing q) := by
      refine e3.trans ?_
      rw [hf₂, State.calling_eq h.top, State.setFrames_setFrames, State.pushFrame, State.frames_setTop _ hr', State.setTop_of_frames _ hr', State.setFrames_setFrames, hr]
      rfl
    have hsame : U.sameButNew ({ U with heap := s₂.heap, slotsUsed := s₂.slotsUsed } : State) L mc ms := by
      refine ⟨?_, q2, q3, q4, q5, q6⟩
      obtain ⟨t, ht, -⟩ := State.frames_cons hr
      show ({ U with heap := s₂.heap, slotsUsed := s₂.slotsUsed } : State) = { U.setFrames U.frames with heap := s₂.heap, slotsUsed := s₂.slotsUsed }
      rw [State.setFrames_self ht]
    subst hg
    refine Or.inr ⟨q, ⟨(({ U with heap := s₂.heap, slotsUsed := s₂.slotsUsed } : State).setVm s₂.vm), Ls ++ L, c0 + mc, s0 + ms⟩,
      ⟨X.admits, X.cas, X.clock, X.frames, X.room, X.hears, X.method, X.code, (X.here.setHeapUsed s₂.heap s₂.slotsUsed).setVm hW'.alike, X.tail, State.WarmedH.trans X.warmed hW', X.limits, X.bytes, X.same.trans (hsame.setVm s.vm)⟩,
      ⟨g, mk, s₂, L, E, ce, rfl, rfl, hx, hce, hcv, hcl, rfl, hL, rfl, rfl⟩, ?_⟩
    show Steps p.tables e below _ (((({ U with heap := s₂.heap, slotsUsed := s₂.slotsUsed } : State).setVm s₂.vm).setTop g).pushFrame (.throwing q))
    rw [← hs₂]
    exact hsteps
end
variable {p : Program} {l : Launch} {e : Env} {R : Room} {s : State} {m : MethodId} {args : Array Value} {below : List Frame} {meth : Method} {c : Code} {T : State} {H : Heap} {locs : List Loc} {cells slots : Nat}
theorem vx_callVX (X : Stand p l e R s m args below meth c T locs cells slots) (hexec : p.tables.exec = Jvm.exec) {own C : String} {index : Nat} {y : MethodName} {bytes : ByteArray} {maxL : Nat} {ret : Option FieldType} {hh : List (Nat × Nat × Nat × Nat)}
    (hown : s.vm.findClass own = some m.cls) (hlink : (Cond.methodLink own index y).before args s = true) (hinst : (Cond.instanceMethod y).before args s = true) (hsel : (Cond.selects C y y).before args s = true)
    (hcode : (Cond.codeWith y bytes maxL ret hh).before args s = true) (hy : y.cls ≠ "java/lang/invoke/MethodHandle" ∧ y.cls ≠ "java/lang/invoke/VarHandle")
    {W9 : Nat} {Pre : Pt → Array Value → Prop} {Post : Pt → Array Value → Option Value → Pt → Prop} {PostX : Pt → Array Value → Addr → Pt → Prop} (hK : vx_Back l R p e below s args y 3 W9 Pre Post PostX)
    {b : Addr} {cellB : Cell} (hcell : T.heap[b]? = some cellB) (hobj : cellB.vm.isStatics = false) (hcls : s.vm.findClass C = some cellB.cls)
    {g : JFrame} (hg : g.method = m) (hsize : g.locals.size = c.maxLocals) {argsL rest : List Value} (hlen : ∀ sig, parseMethodDescriptor y.desc = some sig → argsL.length = sig.parameters.length)
    (hstack : g.stack = argsL.reverse ++ .ref b :: rest) (hW : 2 * g.monitorRoom + (rest.map fun v => v.category).sum ≤ W9) (hdg : decode c.code g.pc = .ok (.invokevirtual index, 3))
    (hpre : ∀ vm₁, s.WarmedH vm₁ → Pre ⟨T.setVm vm₁, locs, cells, slots⟩ (Value.ref b :: argsL).toArray) :
    (∃ (v : Option Value) (vm₁ : Vm) (B : Pt), s.WarmedH vm₁ ∧ Stand p l e R s m args below meth c B.U B.locs B.cells B.slots ∧ Post ⟨T.setVm vm₁, locs, cells, slots⟩ (Value.ref b :: argsL).toArray v B ∧
      ∀ target, Steps p.tables e below (B.U.setTop { g with pc := g.pc + 3, stack := v.toList ++ rest }) target → Steps p.tables e below (T.setTop g) target) ∨
    (∃ (q : Addr) (vm₁ : Vm) (B : Pt), s.WarmedH vm₁ ∧ Stand p l e R s m args below meth c B.U B.locs B.cells B.slots ∧ PostX ⟨T.setVm vm₁, locs, cells, slots⟩ (Value.ref b :: argsL).toArray q B ∧
      Steps p.tables e below (T.setTop g) ((B.U.setTop { g with stack := rest }).pushFrame (.throwing q))) := by
  obtain ⟨mk, methM, hnamed, hmethM, hstM, habM⟩ := Cond.instanceMethod_spec hinst
  obtain ⟨m8, methM', cM, hn8, hmethM', -, -, -, -, -, -, hsigM⟩ := Cond.codeWith_spec hcode
  cases Option.some.inj (hn8.symm.trans hnamed)
  cases hmethM.symm.trans hmethM'
  obtain ⟨c2, r2, m2, q1, q2, q3, q4, kP, hkP, hkPi⟩ := Cond.selects_spec hsel
  cases hcls.symm.trans q1
  cases (State.methodFound?_of_named hnamed hy).symm.trans q2
  cases hnamed.symm.trans q3
  have hselP : selectMethod e.platform s.vm cellB.cls mk = .method mk := by rw [Launch.admits_selectMethod X.admits]; exact q4
  obtain ⟨vm₁, X₁, hstep₁⟩ := X.invokevirtual hexec hown hlink hnamed hmethM hstM hkP hkPi hy (a := b) (cell := cellB) hcell
    (fun z h => by rw [h] at hobj; cases hobj) hselP hmethM habM hkP hkPi (g := g) hg (argsL := argsL) (rest := rest) (hlen _ hsigM) hstack hdg
  rcases hK m meth c ⟨T.setVm vm₁, locs, cells, slots⟩ { g with stack := rest } (.invokevirtual index) mk (Value.ref b :: argsL).toArray X₁ hg hsize hdg hW (X₁.named hnamed) (hpre vm₁ X₁.warmed) with ⟨v, B, X', hpost, hsteps⟩ | ⟨q, B, X', hpost, hsteps⟩
  · exact Or.inl ⟨v, vm₁, B, X₁.warmed, X', hpost, fun target h => hstep₁ _ fun acts => by rw [doInvoke_state]; exact hsteps.trans h⟩
  · exact Or.inr ⟨q, vm₁, B, X₁.warmed, X', hpost, hstep₁ _ fun acts => by rw [doInvoke_state]; exact hsteps⟩
theorem vx_callSX (X : Stand p l e R s m args below meth c T locs cells slots) (hexec : p.tables.exec = Jvm.exec) {own : String} {index : Nat} {y : MethodName} {bytes : ByteArray} {maxL : Nat} {ret : Option FieldType} {hh : List (Nat × Nat × Nat × Nat)}
    (hown : s.vm.findClass own = some m.cls) (hlink : (Cond.methodLink own index y).before args s = true) (hstat : (Cond.static y).before args s = true) (hinit : (Cond.initialized y.cls).before args s = true)
    (hcode : (Cond.codeWith y bytes maxL ret hh).before args s = true) (hy : y.cls ≠ "java/lang/invoke/MethodHandle" ∧ y.cls ≠ "java/lang/invoke/VarHandle")
    {W9 : Nat} {Pre : Pt → Array Value → Prop} {Post : Pt → Array Value → Option Value → Pt → Prop} {PostX : Pt → Array Value → Addr → Pt → Prop} (hK : vx_Back l R p e below s args y 3 W9 Pre Post PostX)
    {g : JFrame} (hg : g.method = m) (hsize : g.locals.size = c.maxLocals) {argsL rest : List Value} (hlen : ∀ sig, parseMethodDescriptor y.desc = some sig → argsL.length = sig.parameters.length)
    (hstack : g.stack = argsL.reverse ++ rest) (hW : 2 * g.monitorRoom + (rest.map fun v => v.category).sum ≤ W9) (hdg : decode c.code g.pc = .ok (.invokestatic index, 3))
    (hpre : ∀ vm₁, s.WarmedH vm₁ → Pre ⟨T.setVm vm₁, locs, cells, slots⟩ argsL.toArray) :
    (∃ (v : Option Value) (vm₁ : Vm) (B : Pt), s.WarmedH vm₁ ∧ Stand p l e R s m args below meth c B.U B.locs B.cells B.slots ∧ Post ⟨T.setVm vm₁, locs, cells, slots⟩ argsL.toArray v B ∧
      ∀ target, Steps p.tables e below (B.U.setTop { g with pc := g.pc + 3, stack := v.toList ++ rest }) target → Steps p.tables e below (T.setTop g) target) ∨
    (∃ (q : Addr) (vm₁ : Vm) (B : Pt), s.WarmedH vm₁ ∧ Stand p l e R s m args below meth c B.U B.locs B.cells B.slots ∧ PostX ⟨T.setVm vm₁, locs, cells, slots⟩ argsL.toArray q B ∧
      Steps p.tables e below (T.setTop g) ((B.U.setTop { g with stack := rest }).pushFrame (.throwing q))) := by
  obtain ⟨mk, methM, cM, hnamed, hmethM, -, -, -, -, -, -, hsigM⟩ := Cond.codeWith_spec hcode
  have hstatic : methM.isStatic = true := Cond.static_spec hnamed hmethM hstat
  obtain ⟨kP, hkP, -⟩ := className_of_methodNamed hnamed
  have hinitP : kP.init = .initialized := Cond.initialized_spec (findClass_of_methodNamed hnamed) hkP hinit
  obtain ⟨vm₁, X₁, hstep₁⟩ := X.invokestatic hexec hown hlink hnamed hmethM hstatic hkP hinitP hy (g := g) hg (argsL := argsL) (rest := rest) (hlen _ hsigM) hstack hdg
  rcases hK m meth c ⟨T.setVm vm₁, locs, cells, slots⟩ { g with stack := rest } (.invokestatic index) mk argsL.toArray X₁ hg hsize hdg hW (X₁.named hnamed) (hpre vm₁ X₁.warmed) with ⟨v, B, X', hpost, hsteps⟩ | ⟨q, B, X', hpost, hsteps⟩
  · exact Or.inl ⟨v, vm₁, B, X₁.warmed, X', hpost, fun target h => hstep₁ _ fun acts => by rw [doInvoke_state]; exact hsteps.trans h⟩
  · exact Or.inr ⟨q, vm₁, B, X₁.warmed, X', hpost, hstep₁ _ fun acts => by rw [doInvoke_state]; exact hsteps⟩
theorem vx_callVW (X : Stand p l e R s m args below meth c T locs cells slots) (hexec : p.tables.exec = Jvm.exec) {own C : String} {index : Nat} {y : MethodName} {bytes : ByteArray} {maxL : Nat} {ret : Option FieldType} {hh : List (Nat × Nat × Nat × Nat)}
    (hown : s.vm.findClass own = some m.cls) (hlink : (Cond.methodLink own index y).before args s = true) (hinst : (Cond.instanceMethod y).before args s = true) (hsel : (Cond.selects C y y).before args s = true)
    (hcode : (Cond.codeWith y bytes maxL ret hh).before args s = true) (hy : y.cls ≠ "java/lang/invoke/MethodHandle" ∧ y.cls ≠ "java/lang/invoke/VarHandle")
    {W9 : Nat} {Pre : Pt → Array Value → Prop} {Post : Pt → Array Value → Option Value → Pt → Prop} (hK : Back l R p e below s args y 3 W9 Pre Post)
    {b : Addr} {cellB : Cell} (hcell : T.heap[b]? = some cellB) (hobj : cellB.vm.isStatics = false) (hcls : s.vm.findClass C = some cellB.cls)
    {g : JFrame} (hg : g.method = m) (hsize : g.locals.size = c.maxLocals) {argsL rest : List Value} (hlen : ∀ sig, parseMethodDescriptor y.desc = some sig → argsL.length = sig.parameters.length)
    (hstack : g.stack = argsL.reverse ++ .ref b :: rest) (hW : 2 * g.monitorRoom + (rest.map fun v => v.category).sum ≤ W9) (hdg : decode c.code g.pc = .ok (.invokevirtual index, 3))
    (hpre : ∀ vm₁, s.WarmedH vm₁ → Pre ⟨T.setVm vm₁, locs, cells, slots⟩ (Value.ref b :: argsL).toArray) :
    ∃ (v : Option Value) (vm₁ : Vm) (B : Pt), s.WarmedH vm₁ ∧ Stand p l e R s m args below meth c B.U B.locs B.cells B.slots ∧ Post ⟨T.setVm vm₁, locs, cells, slots⟩ (Value.ref b :: argsL).toArray v B ∧
      ∀ target, Steps p.tables e below (B.U.setTop { g with pc := g.pc + 3, stack := v.toList ++ rest }) target → Steps p.tables e below (T.setTop g) target := by
  obtain ⟨mk, methM, hnamed, hmethM, hstM, habM⟩ := Cond.instanceMethod_spec hinst
  obtain ⟨m8, methM', cM, hn8, hmethM', -, -, -, -, -, -, hsigM⟩ := Cond.codeWith_spec hcode
  cases Option.some.inj (hn8.symm.trans hnamed)
  cases hmethM.symm.trans hmethM'
  obtain ⟨c2, r2, m2, q1, q2, q3, q4, kP, hkP, hkPi⟩ := Cond.selects_spec hsel
  cases hcls.symm.trans q1
  cases (State.methodFound?_of_named hnamed hy).symm.trans q2
  cases hnamed.symm.trans q3
  have hselP : selectMethod e.platform s.vm cellB.cls mk = .method mk := by rw [Launch.admits_selectMethod X.admits]; exact q4
  obtain ⟨vm₁, X₁, hstep₁⟩ := X.invokevirtual hexec hown hlink hnamed hmethM hstM hkP hkPi hy (a := b) (cell := cellB) hcell
    (fun z h => by rw [h] at hobj; cases hobj) hselP hmethM habM hkP hkPi (g := g) hg (argsL := argsL) (rest := rest) (hlen _ hsigM) hstack hdg
  obtain ⟨v, B, X', hpost, hsteps⟩ := hK m meth c ⟨T.setVm vm₁, locs, cells, slots⟩ { g with stack := rest } (.invokevirtual index) mk (Value.ref b :: argsL).toArray X₁ hg hsize hdg hW (X₁.named hnamed) (hpre vm₁ X₁.warmed)
  exact ⟨v, vm₁, B, X₁.warmed, X', hpost, fun target h => hstep₁ _ fun acts => by rw [doInvoke_state]; exact hsteps.trans h⟩
abbrev vx_CVW (R : Room) (s : State) (args : Array Value) (own C : String) (index : Nat) (y : MethodName) (bytes : ByteArray) (maxL : Nat) (ret : Option FieldType) (hh : List (Nat × Nat × Nat × Nat)) (ws : List Cond) (rm : Room) (mc ms n : Nat) : Prop :=
  (rm.cells = mc ∧ rm.slots = ms ∧ rm.frames + 1 ≤ R.frames ∧ 8 + (maxL + 11) + rm.locals ≤ R.locals ∧ (∀ w ∈ ws, ∀ (a' : Array Value) (U : State), s.WarmedH U.vm → w.before a' U = true) ∧ Cond.codeWith y bytes maxL ret hh ∈ ws) ∧
  (Cond.codeWith y bytes maxL ret hh).before args s = true ∧ (Cond.initialized y.cls).before args s = true ∧ (y.cls ≠ "java/lang/invoke/MethodHandle" ∧ y.cls ≠ "java/lang/invoke/VarHandle") ∧
  (∀ sig, parseMethodDescriptor y.desc = some sig → n = sig.parameters.length) ∧ (Cond.methodLink own index y).before args s = true ∧ (Cond.instanceMethod y).before args s = true ∧ (Cond.selects C y y).before args s = true
theorem vx_cwVW {own C : String} {index maxL mc ms : Nat} {y : MethodName} {bytes : ByteArray} {ret : Option FieldType} {hh : List (Nat × Nat × Nat × Nat)} {Ts ws ws' : List Cond} {rm : Room} (n : Nat) (ht : ∀ w ∈ Ts, w.before args s = true) (hT : GoodIn Ts (wsV own index C y ws)) (hw : ws = Cond.codeWith y bytes maxL ret hh :: ws') (hrc : rm.cells = mc) (hrs : rm.slots = ms)
    (hd : y.cls = C ∧ y.cls ≠ "java/lang/invoke/MethodHandle" ∧ y.cls ≠ "java/lang/invoke/VarHandle" ∧ (parseMethodDescriptor y.desc).map (fun d => d.parameters.length) = some n) (hR : rm.frames + 1 ≤ R.frames ∧ 8 + (maxL + 11) + rm.locals ≤ R.locals) :
    vx_CVW R s args own C index y bytes maxL ret hh ws rm mc ms n := by
  obtain ⟨hC, hd⟩ := hd
  subst hC
  have ok : ∀ w ∈ wsV own index y.cls y ws, w.before args s = true := fun w h => ht w (hT w h).1
  have hG : GoodIn Ts ws := fun w h => hT w (by unfold wsV; exact List.mem_append_right _ h)
  have hc : Cond.codeWith y bytes maxL ret hh ∈ ws := by rw [hw]; exact List.mem_cons_self
  refine ⟨⟨hrc, hrs, hR.1, hR.2, pay_in ht hG, hc⟩, ht _ (hG _ hc).1, ok _ (by simp [wsV]), ⟨hd.1, hd.2.1⟩, fun sig h => ?_, ok _ (by simp [wsV]), ok _ (by simp [wsV]), ok _ (by simp [wsV])⟩
  have h2 := hd.2.2
  rw [h] at h2
  exact (Option.some.inj h2).symm
theorem vx_runVW {y : MethodName} {bytes cc : ByteArray} {maxL nL mc ms n index : Nat} {ret : Option FieldType} {hh : List (Nat × Nat × Nat × Nat)} {ws : List Cond} {rm : Room} {Pc : Array Value → State → Prop} {Qc : Array Value → State → Outcome → State → Prop} {free : Addr → Prop} {Ts : List Cond} {own C : String} {b : Addr} {As rest : List Value} {g : JFrame}
    (S : CallFix p m c cc nL s args Ts own) (hM : Met l y ws rm Pc Qc mc ms free) (cw : vx_CVW R s args own C index y bytes maxL ret hh ws rm mc ms n) (hp : PreV s H C b Pc As)
    (hg : g.method = m) (hn : As.length = n) (hsize : g.locals.size = nL) (hstack : g.stack = As.reverse ++ .ref b :: rest) (hW : 2 * g.monitorRoom + (rest.map fun v => v.category).sum ≤ 8) (hdg : decode cc g.pc = .ok (.invokevirtual index, 3)) (hf : cells + mc ≤ R.cells ∧ slots + ms ≤ R.slots) :
    va_Run p l e R s m args below meth c H locs cells slots mc ms g rest (Qc (Value.ref b :: As).toArray) free := by
  obtain ⟨⟨hrc, hrs, hfr, hlo, hws, hcw⟩, hcode, hini, hy, hlen, hl, hin, hse⟩ := cw
  have hK : Back l R p e below s args y 3 8 (PreOf R mc ms Pc) (PostOf Qc mc ms free) := va_backW (hh := hh) (bytes := bytes) (maxL := maxL) (ret := ret) hM hp.1 hrc hrs hfr hlo hws hcw (fun a' U hW => word_at hW (Or.inl (by first | rfl | simp [Cond.onTables, Cond.keeps, Cond.steady])) hini)
  obtain ⟨hx, hb, hml, ho, -⟩ := S
  obtain ⟨-, ⟨cellB, hcB, hoB, hclB⟩, hPc⟩ := hp
  intro T hT X
  obtain ⟨v, vm₁, ⟨U', l2, c2, s2⟩, hW₁, X', ⟨g', mk, t, L, e1, e2, hq, h1, hL, h2, h3⟩, st⟩ := vx_callVW X hx (C := C) (hh := hh) (bytes := bytes) (maxL := maxL) (ret := ret) ho hl hin hse hcode hy hK (by rw [hT]; exact hcB) hoB hclB hg (hsize.trans hml.symm) (argsL := As) (rest := rest) (fun sig h => hn.trans (hlen sig h)) hstack hW (by rw [hb]; exact hdg)
    (fun vm₁ hW₁ => ⟨hf.1, hf.2, hPc (T.setVm vm₁) hT hW₁⟩)
  dsimp only [Pt.U, Pt.locs, Pt.cells, Pt.slots] at X' e1 e2 h1 h2 h3 st
  subst h1; subst h2; subst h3
  exact ⟨v, (T.setVm vm₁).calling g' mk (Value.ref b :: As).toArray, t, U', L, hT, X', hL, e1, e2, hq, st⟩
section
variable {y : MethodName} {bytes cc : ByteArray} {maxL nL mc ms n index : Nat} {ret : Option FieldType} {ws : List Cond} {rm : Room} {Pc : Array Value → State → Prop} {Qc : Array Value → State → Outcome → State → Prop} {XC : String → State → State → Prop} {free : Addr → Prop} {Ts : List Cond} {own C : String} {b : Addr} {As rest : List Value} {g : JFrame}
theorem vx_runVX {hh : List (Nat × Nat × Nat × Nat)} (S : CallFix p m c cc nL s args Ts own) (hM : vx_Met l y ws rm Pc Qc XC mc ms free) (cw : vx_CVW R s args own C index y bytes maxL ret hh ws rm mc ms n) (hp : PreV s H C b Pc As)
    (hg : g.method = m) (hn : As.length = n) (hsize : g.locals.size = nL) (hstack : g.stack = As.reverse ++ .ref b :: rest) (hW : 2 * g.monitorRoom + (rest.map fun v => v.category).sum ≤ 8) (hdg : decode cc g.pc = .ok (.invokevirtual index, 3)) (hf : cells + mc ≤ R.cells ∧ slots + ms ≤ R.slots) :
    vx_Run p l e R s m args below meth c H locs cells slots mc ms g rest (Qc (Value.ref b :: As).toArray) XC free := by
  obtain ⟨⟨hrc, hrs, hfr, hlo, hws, hcw⟩, hcode, hini, hy, hlen, hl, hin, hse⟩ := cw
  have hK : vx_Back l R p e below s args y 3 8 (PreOf R mc ms Pc) (PostOf Qc mc ms free) (vx_Post XC mc ms free) := vx_backW (hh := hh) (bytes := bytes) (maxL := maxL) (ret := ret) hM hp.1 hrc hrs hfr hlo hws hcw (fun a' U hW => word_at hW (Or.inl (by first | rfl | simp [Cond.onTables, Cond.keeps, Cond.steady])) hini)
  obtain ⟨hx, hb, hml, ho, -⟩ := S
  obtain ⟨-, ⟨cellB, hcB, hoB, hclB⟩, hPc⟩ := hp
  intro T hT X
  rcases vx_callVX X hx (C := C) (hh := hh) (bytes := bytes) (maxL := maxL) (ret := ret) ho hl hin hse hcode hy hK (by rw [hT]; exact hcB) hoB hclB hg (hsize.trans hml.symm) (argsL := As) (rest := rest) (fun sig h => hn.trans (hlen sig h)) hstack hW (by rw [hb]; exact hdg)
    (fun vm₁ hW₁ => ⟨hf.1, hf.2, hPc (T.setVm vm₁) hT hW₁⟩) with ⟨v, vm₁, ⟨U', l2, c2, s2⟩, hW₁, X', ⟨g', mk, t, L, e1, e2, hq, h1, hL, h2, h3⟩, st⟩ | ⟨q, vm₁, ⟨U', l2, c2, s2⟩, hW₁, X', ⟨g', mk, t, L, E, ce, e1, e2, hq, hce, hcv, hcl, h1, hL, h2, h3⟩, st⟩
  · dsimp only [Pt.U, Pt.locs, Pt.cells, Pt.slots] at X' e1 e2 h1 h2 h3 st
    subst h1; subst h2; subst h3
    exact Or.inl ⟨v, (T.setVm vm₁).calling g' mk (Value.ref b :: As).toArray, t, U', L, hT, X', hL, e1, e2, hq, st⟩
  · dsimp only [Pt.U, Pt.locs, Pt.cells, Pt.slots] at X' e1 e2 h1 h2 h3 st hcl
    subst h1; subst h2; subst h3
    exact Or.inr ⟨q, (T.setVm vm₁).calling g' mk (Value.ref b :: As).toArray, t, U', L, E, ce, hT, X', hL, e1, e2, hq, hce, hcv, vx_cls hW₁ hcl, st⟩
theorem vx_runSX {hh : List (Nat × Nat × Nat × Nat)} (S : CallFix p m c cc nL s args Ts own) (hM : vx_Met l y ws rm Pc Qc XC mc ms free) (cw : vx_CSW R s args own index y bytes maxL ret hh ws rm mc ms n) (hp : PreS s H Pc As)
    (hg : g.method = m) (hn : As.length = n) (hsize : g.locals.size = nL) (hstack : g.stack = As.reverse ++ rest) (hW : 2 * g.monitorRoom + (rest.map fun v => v.category).sum ≤ 8) (hdg : decode cc g.pc = .ok (.invokestatic index, 3)) (hf : cells + mc ≤ R.cells ∧ slots + ms ≤ R.slots) :
    vx_Run p l e R s m args below meth c H locs cells slots mc ms g rest (Qc As.toArray) XC free := by
  obtain ⟨⟨hrc, hrs, hfr, hlo, hws, hcw⟩, hcode, hini, hy, hlen, hl, hstt⟩ := cw
  have hK : vx_Back l R p e below s args y 3 8 (PreOf R mc ms Pc) (PostOf Qc mc ms free) (vx_Post XC mc ms free) := vx_backW (hh := hh) (bytes := bytes) (maxL := maxL) (ret := ret) hM hp.1 hrc hrs hfr hlo hws hcw (fun a' U hW => word_at hW (Or.inl (by first | rfl | simp [Cond.onTables, Cond.keeps, Cond.steady])) hini)
  obtain ⟨hx, hb, hml, ho, -⟩ := S
  intro T hT X
  rcases vx_callSX X hx (hh := hh) (bytes := bytes) (maxL := maxL) (ret := ret) ho hl hstt hini hcode hy hK hg (hsize.trans hml.symm) (argsL := As) (rest := rest) (fun sig h => hn.trans (hlen sig h)) hstack hW (by rw [hb]; exact hdg)
    (fun vm₁ hW₁ => ⟨hf.1, hf.2, hp.2 (T.setVm vm₁) hT hW₁⟩) with ⟨v, vm₁, ⟨U', l2, c2, s2⟩, hW₁, X', ⟨g', mk, t, L, e1, e2, hq, h1, hL, h2, h3⟩, st⟩ | ⟨q, vm₁, ⟨U', l2, c2, s2⟩, hW₁, X', ⟨g', mk, t, L, E, ce, e1, e2, hq, hce, hcv, hcl, h1, hL, h2, h3⟩, st⟩
  · dsimp only [Pt.U, Pt.locs, Pt.cells, Pt.slots] at X' e1 e2 h1 h2 h3 st
    subst h1; subst h2; subst h3
    exact Or.inl ⟨v, (T.setVm vm₁).calling g' mk As.toArray, t, U', L, hT, X', hL, e1, e2, hq, st⟩
  · dsimp only [Pt.U, Pt.locs, Pt.cells, Pt.slots] at X' e1 e2 h1 h2 h3 st hcl
    subst h1; subst h2; subst h3
    exact Or.inr ⟨q, (T.setVm vm₁).calling g' mk As.toArray, t, U', L, E, ce, hT, X', hL, e1, e2, hq, hce, hcv, vx_cls hW₁ hcl, st⟩
end
end VXH
theorem vx_ofWH {l : Launch} {y : MethodName} {ws ws' : List Cond} {rm : Room} {Pc : Array Value → State → Prop} {Qc : Array Value → State → Outcome → State → Prop} {XC : String → State → State → Prop} {mc ms : Nat} {free : Addr → Prop} {cc : ByteArray} {maxL : Nat} {ret : Option FieldType} {hh : List (Nat × Nat × Nat × Nat)}
    (hy : plainName y.cls = true) (hw : ws = Cond.codeWith y cc maxL ret hh :: ws')
    (body : ∀ p e s m args below meth c s₁, BodyLoose p l y (headSpec ws rm) cc maxL ret e s m args below meth c s₁ → c.maxLocals = maxL → Pc args s →
      W p l e (headSpec ws rm).room s m args below meth c s.heap [] 0 0 (vx_MQ below Qc XC args s mc ms free) (entryFrame m args maxL)) : vx_Met l y ws rm Pc Qc XC mc ms free := by
  refine MetFree.of_bodyS (code := cc) (maxLocals := maxL) (ret := ret) hy ?_ ?_
  · intro args s m h hn
    obtain ⟨m9, meth, c, hn9, h1, h2, h3, h4, -, h5, h6, -⟩ := Cond.codeWith_spec (atoms_spec (ws := ws) h _ (by rw [hw]; exact List.mem_cons_self))
    cases hn.symm.trans hn9
    exact ⟨meth, c, h1, h2, h3, h4, h5, h6⟩
  · intro p e s m args below meth c s₁ B hml hP _
    have hh0 : s₁.heap = s.heap := by rw [B.state]; rfl
    obtain ⟨t, a1, o, b1, b2, b3⟩ := body p e s m args below meth c s₁ B hml hP s₁ hh0 (Stand.of_body B)
    exact ⟨t, o, a1, b1, b2, b3⟩
/-! ===== END ===== -/

/-! ===== BEGIN a private method of a nest mate that may throw (follows va_callVN, va_callSN, va_runVN, va_runSN) ===== -/
section
variable {p : Program} {l : Launch} {e : Env} {R : Room} {s : State} {m : MethodId} {args : Array Value} {below : List Frame} {meth : Method} {c : Code} {H : Heap} {locs : List Loc} {cells slots : Nat}
variable {T : State}
theorem vx_callVN (X : Stand p l e R s m args below meth c T locs cells slots) (hexec : p.tables.exec = Jvm.exec) {own C : String} {index : Nat} {host : String} {y : MethodName} {bytes : ByteArray} {maxL : Nat} {ret : Option FieldType}
    (hown : s.vm.findClass own = some m.cls) (hlink : (Cond.methodLinkNest own index y host).before args s = true) (hinst : (Cond.instanceMethod y).before args s = true) (hsel : (Cond.selects C y y).before args s = true)
    (hcode : (Cond.code y bytes maxL ret).before args s = true) (hy : y.cls ≠ "java/lang/invoke/MethodHandle" ∧ y.cls ≠ "java/lang/invoke/VarHandle")
    {W : Nat} {Pre : Pt → Array Value → Prop} {Post : Pt → Array Value → Option Value → Pt → Prop} {PostX : Pt → Array Value → Addr → Pt → Prop} (hK : vx_Back l R p e below s args y 3 W Pre Post PostX)
    {b : Addr} {cellB : Cell} (hcell : T.heap[b]? = some cellB) (hobj : cellB.vm.isStatics = false) (hcls : s.vm.findClass C = some cellB.cls)
    {g : JFrame} (hg : g.method = m) (hsize : g.locals.size = c.maxLocals) {argsL rest : List Value} (hlen : ∀ sig, parseMethodDescriptor y.desc = some sig → argsL.length = sig.parameters.length)
    (hstack : g.stack = argsL.reverse ++ .ref b :: rest) (hW : 2 * g.monitorRoom + (rest.map fun v => v.category).sum ≤ W) (hdg : decode c.code g.pc = .ok (.invokevirtual index, 3))
    (hpre : ∀ vm₁, s.WarmedH vm₁ → Pre ⟨T.setVm vm₁, locs, cells, slots⟩ (Value.ref b :: argsL).toArray) :
    (∃ (v : Option Value) (vm₁ : Vm) (B : Pt), s.WarmedH vm₁ ∧ Stand p l e R s m args below meth c B.U B.locs B.cells B.slots ∧ Post ⟨T.setVm vm₁, locs, cells, slots⟩ (Value.ref b :: argsL).toArray v B ∧
      ∀ target, Steps p.tables e below (B.U.setTop { g with pc := g.pc + 3, stack := v.toList ++ rest }) target → Steps p.tables e below (T.setTop g) target) ∨
    (∃ (q : Addr) (vm₁ : Vm) (B : Pt), s.WarmedH vm₁ ∧ Stand p l e R s m args below meth c B.U B.locs B.cells B.slots ∧ PostX ⟨T.setVm vm₁, locs, cells, slots⟩ (Value.ref b :: argsL).toArray q B ∧
      Steps p.tables e below (T.setTop g) ((B.U.setTop { g with stack := rest }).pushFrame (.throwing q))) := by
  obtain ⟨mk, methM, hnamed, hmethM, hstM, habM⟩ := Cond.instanceMethod_spec hinst
  obtain ⟨methM', cM, hmethM', -, -, -, -, -, -, hsigM⟩ := Cond.code_spec hnamed hcode
  cases hmethM.symm.trans hmethM'
  obtain ⟨c2, r2, m2, q1, q2, q3, q4, kP, hkP, hkPi⟩ := Cond.selects_spec hsel
  cases hcls.symm.trans q1
  cases (State.methodFound?_of_named hnamed hy).symm.trans q2
  cases hnamed.symm.trans q3
  have hselP : selectMethod e.platform s.vm cellB.cls mk = .method mk := by rw [Launch.admits_selectMethod X.admits]; exact q4
  obtain ⟨vm₁, X₁, hstep₁⟩ := X.invokevirtualNest hexec hown hlink hnamed hmethM hstM hkP hkPi hy (a := b) (cell := cellB) hcell
    (fun z h => by rw [h] at hobj; cases hobj) hselP hmethM habM hkP hkPi (g := g) hg (argsL := argsL) (rest := rest) (hlen _ hsigM) hstack hdg
  rcases hK m meth c ⟨T.setVm vm₁, locs, cells, slots⟩ { g with stack := rest } (.invokevirtual index) mk (Value.ref b :: argsL).toArray X₁ hg hsize hdg hW (X₁.named hnamed) (hpre vm₁ X₁.warmed) with ⟨v, B, X', hpost, hsteps⟩ | ⟨q, B, X', hpost, hsteps⟩
  · exact Or.inl ⟨v, vm₁, B, X₁.warmed, X', hpost, fun target h => hstep₁ _ fun acts => by rw [doInvoke_state]; exact hsteps.trans h⟩
  · exact Or.inr ⟨q, vm₁, B, X₁.warmed, X', hpost, hstep₁ _ fun acts => by rw [doInvoke_state]; exact hsteps⟩
theorem vx_callSN (X : Stand p l e R s m args below meth c T locs cells slots) (hexec : p.tables.exec = Jvm.exec) {own : String} {index : Nat} {host : String} {y : MethodName} {bytes : ByteArray} {maxL : Nat} {ret : Option FieldType}
    (hown : s.vm.findClass own = some m.cls) (hlink : (Cond.methodLinkNest own index y host).before args s = true) (hstat : (Cond.static y).before args s = true) (hinit : (Cond.initialized y.cls).before args s = true)
    (hcode : (Cond.code y bytes maxL ret).before args s = true) (hy : y.cls ≠ "java/lang/invoke/MethodHandle" ∧ y.cls ≠ "java/lang/invoke/VarHandle")
    {W : Nat} {Pre : Pt → Array Value → Prop} {Post : Pt → Array Value → Option Value → Pt → Prop} {PostX : Pt → Array Value → Addr → Pt → Prop} (hK : vx_Back l R p e below s args y 3 W Pre Post PostX)
    {g : JFrame} (hg : g.method = m) (hsize : g.locals.size = c.maxLocals) {argsL rest : List Value} (hlen : ∀ sig, parseMethodDescriptor y.desc = some sig → argsL.length = sig.parameters.length)
    (hstack : g.stack = argsL.reverse ++ rest) (hW : 2 * g.monitorRoom + (rest.map fun v => v.category).sum ≤ W) (hdg : decode c.code g.pc = .ok (.invokestatic index, 3))
    (hpre : ∀ vm₁, s.WarmedH vm₁ → Pre ⟨T.setVm vm₁, locs, cells, slots⟩ argsL.toArray) :
    (∃ (v : Option Value) (vm₁ : Vm) (B : Pt), s.WarmedH vm₁ ∧ Stand p l e R s m args below meth c B.U B.locs B.cells B.slots ∧ Post ⟨T.setVm vm₁, locs, cells, slots⟩ argsL.toArray v B ∧
      ∀ target, Steps p.tables e below (B.U.setTop { g with pc := g.pc + 3, stack := v.toList ++ rest }) target → Steps p.tables e below (T.setTop g) target) ∨
    (∃ (q : Addr) (vm₁ : Vm) (B : Pt), s.WarmedH vm₁ ∧ Stand p l e R s m args below meth c B.U B.locs B.cells B.slots ∧ PostX ⟨T.setVm vm₁, locs, cells, slots⟩ argsL.toArray q B ∧
      Steps p.tables e below (T.setTop g) ((B.U.setTop { g with stack := rest }).pushFrame (.throwing q))) := by
  obtain ⟨mk, hnamed⟩ := Cond.code_named hcode
  obtain ⟨methM, cM, hmethM, -, -, -, -, -, -, hsigM⟩ := Cond.code_spec hnamed hcode
  have hstatic : methM.isStatic = true := Cond.static_spec hnamed hmethM hstat
  obtain ⟨kP, hkP, -⟩ := className_of_methodNamed hnamed
  have hinitP : kP.init = .initialized := Cond.initialized_spec (findClass_of_methodNamed hnamed) hkP hinit
  obtain ⟨vm₁, X₁, hstep₁⟩ := X.invokestaticNest hexec hown hlink hnamed hmethM hstatic hkP hinitP hy (g := g) hg (argsL := argsL) (rest := rest) (hlen _ hsigM) hstack hdg
  rcases hK m meth c ⟨T.setVm vm₁, locs, cells, slots⟩ { g with stack := rest } (.invokestatic index) mk argsL.toArray X₁ hg hsize hdg hW (X₁.named hnamed) (hpre vm₁ X₁.warmed) with ⟨v, B, X', hpost, hsteps⟩ | ⟨q, B, X', hpost, hsteps⟩
  · exact Or.inl ⟨v, vm₁, B, X₁.warmed, X', hpost, fun target h => hstep₁ _ fun acts => by rw [doInvoke_state]; exact hsteps.trans h⟩
  · exact Or.inr ⟨q, vm₁, B, X₁.warmed, X', hpost, hstep₁ _ fun acts => by rw [doInvoke_state]; exact hsteps⟩
theorem vx_runVN {y : MethodName} {bytes cc : ByteArray} {maxL nL mc ms n index : Nat} {ret : Option FieldType} {ws : List Cond} {rm : Room} {Pc : Array Value → State → Prop} {Qc : Array Value → State → Outcome → State → Prop} {XC : String → State → State → Prop} {free : Addr → Prop} {Ts : List Cond} {own C host : String} {b : Addr} {As rest : List Value} {g : JFrame}
    (S : CallFix p m c cc nL s args Ts own) (hM : vx_Met l y ws rm Pc Qc XC mc ms free) (cw : va_CN R s args own index y host bytes maxL ret ws rm mc ms n ∧ (Cond.instanceMethod y).before args s = true ∧ (Cond.selects C y y).before args s = true) (hp : PreV s H C b Pc As)
    (hg : g.method = m) (hn : As.length = n) (hsize : g.locals.size = nL) (hstack : g.stack = As.reverse ++ .ref b :: rest) (hW : 2 * g.monitorRoom + (rest.map fun v => v.category).sum ≤ 8) (hdg : decode cc g.pc = .ok (.invokevirtual index, 3)) (hf : cells + mc ≤ R.cells ∧ slots + ms ≤ R.slots) :
    vx_Run p l e R s m args below meth c H locs cells slots mc ms g rest (Qc (Value.ref b :: As).toArray) XC free := by
  obtain ⟨⟨⟨hrc, hrs, hfr, hlo, hws, hcw⟩, hcode, hini, hy, hlen, hl⟩, hx1, hx2⟩ := cw
  have hK : vx_Back l R p e below s args y 3 8 (PreOf R mc ms Pc) (PostOf Qc mc ms free) (vx_Post XC mc ms free) := vx_back (bytes := bytes) (maxL := maxL) (ret := ret) hM hp.1 hrc hrs hfr hlo hws hcw (fun a' U hW => word_at hW (Or.inl (by first | rfl | simp [Cond.onTables, Cond.keeps, Cond.steady])) hini)
  obtain ⟨hx, hb, hml, ho, -⟩ := S
  obtain ⟨-, ⟨cellB, hcB, hoB, hclB⟩, hPc⟩ := hp
  intro T hT X
  rcases vx_callVN X hx (C := C) (bytes := bytes) (maxL := maxL) (ret := ret) ho hl hx1 hx2 hcode hy hK (by rw [hT]; exact hcB) hoB hclB hg (hsize.trans hml.symm) (argsL := As) (rest := rest) (fun sig h => hn.trans (hlen sig h)) hstack hW (by rw [hb]; exact hdg)
    (fun vm₁ hW₁ => ⟨hf.1, hf.2, hPc (T.setVm vm₁) hT hW₁⟩) with ⟨v, vm₁, ⟨U', l2, c2, s2⟩, hW₁, X', ⟨g', mk, t, L, e1, e2, hq, h1, hL, h2, h3⟩, st⟩ | ⟨q, vm₁, ⟨U', l2, c2, s2⟩, hW₁, X', ⟨g', mk, t, L, E, ce, e1, e2, hq, hce, hcv, hcl, h1, hL, h2, h3⟩, st⟩
  · dsimp only [Pt.U, Pt.locs, Pt.cells, Pt.slots] at X' e1 e2 h1 h2 h3 st
    subst h1; subst h2; subst h3
    exact Or.inl ⟨v, (T.setVm vm₁).calling g' mk (Value.ref b :: As).toArray, t, U', L, hT, X', hL, e1, e2, hq, st⟩
  · dsimp only [Pt.U, Pt.locs, Pt.cells, Pt.slots] at X' e1 e2 h1 h2 h3 st hcl
    subst h1; subst h2; subst h3
    exact Or.inr ⟨q, (T.setVm vm₁).calling g' mk (Value.ref b :: As).toArray, t, U', L, E, ce, hT, X', hL, e1, e2, hq, hce, hcv, vx_cls hW₁ hcl, st⟩
theorem vx_runSN {y : MethodName} {bytes cc : ByteArray} {maxL nL mc ms n index : Nat} {ret : Option FieldType} {ws : List Cond} {rm : Room} {Pc : Array Value → State → Prop} {Qc : Array Value → State → Outcome → State → Prop} {XC : String → State → State → Prop} {free : Addr → Prop} {Ts : List Cond} {own host : String} {As rest : List Value} {g : JFrame}
    (S : CallFix p m c cc nL s args Ts own) (hM : vx_Met l y ws rm Pc Qc XC mc ms free) (cw : va_CN R s args own index y host bytes maxL ret ws rm mc ms n ∧ (Cond.static y).before args s = true ∧ True) (hp : PreS s H Pc As)
    (hg : g.method = m) (hn : As.length = n) (hsize : g.locals.size = nL) (hstack : g.stack = As.reverse ++ rest) (hW : 2 * g.monitorRoom + (rest.map fun v => v.category).sum ≤ 8) (hdg : decode cc g.pc = .ok (.invokestatic index, 3)) (hf : cells + mc ≤ R.cells ∧ slots + ms ≤ R.slots) :
    vx_Run p l e R s m args below meth c H locs cells slots mc ms g rest (Qc As.toArray) XC free := by
  obtain ⟨⟨⟨hrc, hrs, hfr, hlo, hws, hcw⟩, hcode, hini, hy, hlen, hl⟩, hx1, hx2⟩ := cw
  have hK : vx_Back l R p e below s args y 3 8 (PreOf R mc ms Pc) (PostOf Qc mc ms free) (vx_Post XC mc ms free) := vx_back (bytes := bytes) (maxL := maxL) (ret := ret) hM hp.1 hrc hrs hfr hlo hws hcw (fun a' U hW => word_at hW (Or.inl (by first | rfl | simp [Cond.onTables, Cond.keeps, Cond.steady])) hini)
  obtain ⟨hx, hb, hml, ho, -⟩ := S
  have hPc := hp.2
  intro T hT X
  rcases vx_callSN X hx (bytes := bytes) (maxL := maxL) (ret := ret) ho hl hx1 hini hcode hy hK hg (hsize.trans hml.symm) (argsL := As) (rest := rest) (fun sig h => hn.trans (hlen sig h)) hstack hW (by rw [hb]; exact hdg)
    (fun vm₁ hW₁ => ⟨hf.1, hf.2, hPc (T.setVm vm₁) hT hW₁⟩) with ⟨v, vm₁, ⟨U', l2, c2, s2⟩, hW₁, X', ⟨g', mk, t, L, e1, e2, hq, h1, hL, h2, h3⟩, st⟩ | ⟨q, vm₁, ⟨U', l2, c2, s2⟩, hW₁, X', ⟨g', mk, t, L, E, ce, e1, e2, hq, hce, hcv, hcl, h1, hL, h2, h3⟩, st⟩
  · dsimp only [Pt.U, Pt.locs, Pt.cells, Pt.slots] at X' e1 e2 h1 h2 h3 st
    subst h1; subst h2; subst h3
    exact Or.inl ⟨v, (T.setVm vm₁).calling g' mk As.toArray, t, U', L, hT, X', hL, e1, e2, hq, st⟩
  · dsimp only [Pt.U, Pt.locs, Pt.cells, Pt.slots] at X' e1 e2 h1 h2 h3 st hcl
    subst h1; subst h2; subst h3
    exact Or.inr ⟨q, (T.setVm vm₁).calling g' mk As.toArray, t, U', L, E, ce, hT, X', hL, e1, e2, hq, hce, hcv, vx_cls hW₁ hcl, st⟩
end
/-! ===== END ===== -/
def RX0 : String := "ComponentContainer$Descriptions"
def TX0 : u_T := fun k => match k with
  | 0 => ("ComponentContainer$Descriptions", "properties", "[[I", true)
  | 1 => ("ComponentContainer$Descriptions", "dependencies", "[[I", true)
  | 2 => ("ComponentContainer$Descriptions", "dependencyCounts", "[I", true)
  | 3 => ("ComponentContainer$Descriptions", "count", "I", false)
  | _ => ("ComponentContainer$Descriptions", "profilesOn", "I", false)
def tyX0 : Nat → FieldType := fun k => match k with
  | 0 => .array (.array .int)
  | 1 => .array (.array .int)
  | 2 => .array .int
  | 3 => .int
  | _ => .int
abbrev wsX00 : List Cond := u_ws RX0 TX0 5
theorem nmX0 : ∀ a, a < 5 → ∀ b, b < 5 → a ≠ b → (TX0 a).2.1 ≠ (TX0 b).2.1 := by decide +kernel
theorem tyX0_ok : ∀ k, k < 5 → parseFieldDescriptor (TX0 k).2.2.1 = some (tyX0 k) := by decide +kernel
abbrev cX0_init : ByteArray := prog_2_method_1_code
def yX0_init : MethodName := ⟨RX0, "<init>", "()V"⟩
abbrev cX0_append : ByteArray := prog_2_method_2_code
def yX0_append : MethodName := ⟨RX0, "append", "(II)I"⟩
abbrev cX0_appendDependency : ByteArray := prog_2_method_3_code
def yX0_appendDependency : MethodName := ⟨RX0, "appendDependency", "(IIII)I"⟩
abbrev cX0_hasDependency : ByteArray := prog_2_method_4_code
def yX0_hasDependency : MethodName := ⟨RX0, "hasDependency", "(II)Z"⟩
abbrev cX0_partOf : ByteArray := prog_2_method_5_code
def yX0_partOf : MethodName := ⟨RX0, "partOf", "(III)I"⟩
abbrev cX0_turnProfile : ByteArray := prog_2_method_6_code
def yX0_turnProfile : MethodName := ⟨RX0, "turnProfile", "(IZ)V"⟩
abbrev cX0_isActive : ByteArray := prog_2_method_7_code
def yX0_isActive : MethodName := ⟨RX0, "isActive", "(I)Z"⟩
abbrev cX0_isStarted : ByteArray := prog_2_method_8_code
def yX0_isStarted : MethodName := ⟨RX0, "isStarted", "(I)Z"⟩
abbrev cX0_provides : ByteArray := prog_2_method_9_code
def yX0_provides : MethodName := ⟨RX0, "provides", "(III)Z"⟩
abbrev cX0_candidateMask : ByteArray := prog_2_method_10_code
def yX0_candidateMask : MethodName := ⟨RX0, "candidateMask", "(II)I"⟩
abbrev cX0_candidatesFor : ByteArray := prog_2_method_11_code
def yX0_candidatesFor : MethodName := ⟨RX0, "candidatesFor", "(II)I"⟩
abbrev cX0_choiceAmong : ByteArray := prog_2_method_12_code
def yX0_choiceAmong : MethodName := ⟨RX0, "choiceAmong", "(I)I"⟩
abbrev cX0_singleIn : ByteArray := prog_2_method_13_code
def yX0_singleIn : MethodName := ⟨RX0, "singleIn", "(I)I"⟩
abbrev cX0_primaryMask : ByteArray := prog_2_method_14_code
def yX0_primaryMask : MethodName := ⟨RX0, "primaryMask", "()I"⟩
abbrev cX0_directNeeds : ByteArray := prog_2_method_15_code
def yX0_directNeeds : MethodName := ⟨RX0, "directNeeds", "(I)I"⟩
abbrev cX0_needsOfDependency : ByteArray := prog_2_method_16_code
def yX0_needsOfDependency : MethodName := ⟨RX0, "needsOfDependency", "(II)I"⟩
abbrev cX0_allNeeds : ByteArray := prog_2_method_17_code
def yX0_allNeeds : MethodName := ⟨RX0, "allNeeds", "(I)I"⟩
def RX1 : String := "ComponentContainer$Failure"
def TX1 : u_T := fun k => match k with
  | 0 => ("ComponentContainer$Failure", "kind", "I", false)
  | 1 => ("ComponentContainer$Failure", "detail", "I", false)
  | 2 => ("ComponentContainer$Failure", "chain", "[I", true)
  | _ => ("ComponentContainer$Failure", "chainLength", "I", false)
def tyX1 : Nat → FieldType := fun k => match k with
  | 0 => .int
  | 1 => .int
  | 2 => .array .int
  | _ => .int
abbrev wsX10 : List Cond := u_ws RX1 TX1 4
theorem nmX1 : ∀ a, a < 4 → ∀ b, b < 4 → a ≠ b → (TX1 a).2.1 ≠ (TX1 b).2.1 := by decide +kernel
theorem tyX1_ok : ∀ k, k < 4 → parseFieldDescriptor (TX1 k).2.2.1 = some (tyX1 k) := by decide +kernel
abbrev cX1_init : ByteArray := prog_3_method_1_code
def yX1_init : MethodName := ⟨RX1, "<init>", "()V"⟩
abbrev cX1_remember : ByteArray := prog_3_method_2_code
def yX1_remember : MethodName := ⟨RX1, "remember", "(II[II)V"⟩
def RX2 : String := "ComponentContainer$Ledger"
def TX2 : u_T := fun k => match k with
  | 0 => ("ComponentContainer$Ledger", "components", "[I", true)
  | 1 => ("ComponentContainer$Ledger", "places", "[I", true)
  | 2 => ("ComponentContainer$Ledger", "living", "[Z", true)
  | 3 => ("ComponentContainer$Ledger", "injections", "[I", true)
  | 4 => ("ComponentContainer$Ledger", "injectionCounts", "[I", true)
  | 5 => ("ComponentContainer$Ledger", "count", "I", false)
  | 6 => ("ComponentContainer$Ledger", "kept", "[[I", true)
  | 7 => ("ComponentContainer$Ledger", "completedOf", "[I", true)
  | 8 => ("ComponentContainer$Ledger", "events", "[I", true)
  | _ => ("ComponentContainer$Ledger", "eventCount", "I", false)
def tyX2 : Nat → FieldType := fun k => match k with
  | 0 => .array .int
  | 1 => .array .int
  | 2 => .array .boolean
  | 3 => .array .int
  | 4 => .array .int
  | 5 => .int
  | 6 => .array (.array .int)
  | 7 => .array .int
  | 8 => .array .int
  | _ => .int
abbrev wsX20 : List Cond := u_ws RX2 TX2 10
theorem nmX2 : ∀ a, a < 10 → ∀ b, b < 10 → a ≠ b → (TX2 a).2.1 ≠ (TX2 b).2.1 := by decide +kernel
theorem tyX2_ok : ∀ k, k < 10 → parseFieldDescriptor (TX2 k).2.2.1 = some (tyX2 k) := by decide +kernel
abbrev cX2_init : ByteArray := prog_4_method_1_code
def yX2_init : MethodName := ⟨RX2, "<init>", "()V"⟩
abbrev cX2_append : ByteArray := prog_4_method_2_code
def yX2_append : MethodName := ⟨RX2, "append", "(II[II)I"⟩
abbrev cX2_hasInjection : ByteArray := prog_4_method_3_code
def yX2_hasInjection : MethodName := ⟨RX2, "hasInjection", "(II)Z"⟩
abbrev cX2_destroyAllIn : ByteArray := prog_4_method_4_code
def yX2_destroyAllIn : MethodName := ⟨RX2, "destroyAllIn", "(I)I"⟩
abbrev cX2_destroyPrototypesFrom : ByteArray := prog_4_method_5_code
def yX2_destroyPrototypesFrom : MethodName := ⟨RX2, "destroyPrototypesFrom", "(I)V"⟩
abbrev cX2_destroyFrom : ByteArray := prog_4_method_6_code
def yX2_destroyFrom : MethodName := ⟨RX2, "destroyFrom", "(II)I"⟩
abbrev cX2_destroy : ByteArray := prog_4_method_7_code
def yX2_destroy : MethodName := ⟨RX2, "destroy", "(I)V"⟩
abbrev cX2_recordEvent : ByteArray := prog_4_method_8_code
def yX2_recordEvent : MethodName := ⟨RX2, "recordEvent", "(I)V"⟩
def RX3 : String := "ComponentContainer"
def TX3 : u_T := fun k => match k with
  | 0 => ("ComponentContainer", "descriptions", "LComponentContainer$Descriptions;", true)
  | 1 => ("ComponentContainer", "ledger", "LComponentContainer$Ledger;", true)
  | 2 => ("ComponentContainer", "failure", "LComponentContainer$Failure;", true)
  | 3 => ("ComponentContainer", "openScopes", "I", false)
  | 4 => ("ComponentContainer", "chain", "[I", true)
  | 5 => ("ComponentContainer", "injecting", "[[I", true)
  | _ => ("ComponentContainer", "soundComponents", "I", false)
def tyX3 : Nat → FieldType := fun k => match k with
  | 0 => .object "ComponentContainer$Descriptions"
  | 1 => .object "ComponentContainer$Ledger"
  | 2 => .object "ComponentContainer$Failure"
  | 3 => .int
  | 4 => .array .int
  | 5 => .array (.array .int)
  | _ => .int
abbrev wsX30 : List Cond := u_ws RX3 TX3 7
theorem nmX3 : ∀ a, a < 7 → ∀ b, b < 7 → a ≠ b → (TX3 a).2.1 ≠ (TX3 b).2.1 := by decide +kernel
theorem tyX3_ok : ∀ k, k < 7 → parseFieldDescriptor (TX3 k).2.2.1 = some (tyX3 k) := by decide +kernel
abbrev cX3_init : ByteArray := prog_1_method_1_code
def yX3_init : MethodName := ⟨RX3, "<init>", "()V"⟩
abbrev cX3_add : ByteArray := prog_1_method_2_code
def yX3_add : MethodName := ⟨RX3, "add", "(II)I"⟩
abbrev cX3_set : ByteArray := prog_1_method_3_code
def yX3_set : MethodName := ⟨RX3, "set", "(III)I"⟩
abbrev cX3_property : ByteArray := prog_1_method_4_code
def yX3_property : MethodName := ⟨RX3, "property", "(II)I"⟩
abbrev cX3_depend : ByteArray := prog_1_method_5_code
def yX3_depend : MethodName := ⟨RX3, "depend", "(IIII)I"⟩
abbrev cX3_clear : ByteArray := prog_1_method_6_code
def yX3_clear : MethodName := ⟨RX3, "clear", "(I)I"⟩
abbrev cX3_dependency : ByteArray := prog_1_method_7_code
def yX3_dependency : MethodName := ⟨RX3, "dependency", "(III)I"⟩
abbrev cX3_profile : ByteArray := prog_1_method_8_code
def yX3_profile : MethodName := ⟨RX3, "profile", "(IZ)Z"⟩
abbrev cX3_components : ByteArray := prog_1_method_9_code
def yX3_components : MethodName := ⟨RX3, "components", "()I"⟩
abbrev cX3_candidates : ByteArray := prog_1_method_10_code
def yX3_candidates : MethodName := ⟨RX3, "candidates", "(II)I"⟩
abbrev cX3_chosen : ByteArray := prog_1_method_11_code
def yX3_chosen : MethodName := ⟨RX3, "chosen", "(II)I"⟩
abbrev cX3_problem : ByteArray := prog_1_method_12_code
def yX3_problem : MethodName := ⟨RX3, "problem", "(I)I"⟩
abbrev cX3_needs : ByteArray := prog_1_method_13_code
def yX3_needs : MethodName := ⟨RX3, "needs", "(I)I"⟩
abbrev cX3_resolve : ByteArray := prog_1_method_14_code
def yX3_resolve : MethodName := ⟨RX3, "resolve", "(II)I"⟩
abbrev cX3_provide : ByteArray := prog_1_method_15_code
def yX3_provide : MethodName := ⟨RX3, "provide", "(II)I"⟩
abbrev cX3_start : ByteArray := prog_1_method_16_code
def yX3_start : MethodName := ⟨RX3, "start", "()I"⟩
abbrev cX3_begin : ByteArray := prog_1_method_17_code
def yX3_begin : MethodName := ⟨RX3, "begin", "()I"⟩
abbrev cX3_end : ByteArray := prog_1_method_18_code
def yX3_end : MethodName := ⟨RX3, "end", "()I"⟩
abbrev cX3_close : ByteArray := prog_1_method_19_code
def yX3_close : MethodName := ⟨RX3, "close", "()I"⟩
abbrev cX3_instances : ByteArray := prog_1_method_20_code
def yX3_instances : MethodName := ⟨RX3, "instances", "()I"⟩
abbrev cX3_componentOf : ByteArray := prog_1_method_21_code
def yX3_componentOf : MethodName := ⟨RX3, "componentOf", "(I)I"⟩
abbrev cX3_isAlive : ByteArray := prog_1_method_22_code
def yX3_isAlive : MethodName := ⟨RX3, "isAlive", "(I)Z"⟩
abbrev cX3_injected : ByteArray := prog_1_method_23_code
def yX3_injected : MethodName := ⟨RX3, "injected", "(II)I"⟩
abbrev cX3_event : ByteArray := prog_1_method_24_code
def yX3_event : MethodName := ⟨RX3, "event", "(I)I"⟩
abbrev cX3_failureKind : ByteArray := prog_1_method_25_code
def yX3_failureKind : MethodName := ⟨RX3, "failureKind", "()I"⟩
abbrev cX3_failureDetail : ByteArray := prog_1_method_26_code
def yX3_failureDetail : MethodName := ⟨RX3, "failureDetail", "()I"⟩
abbrev cX3_failureChain : ByteArray := prog_1_method_27_code
def yX3_failureChain : MethodName := ⟨RX3, "failureChain", "(I)I"⟩
abbrev cX3_isBetween : ByteArray := prog_1_method_28_code
def yX3_isBetween : MethodName := ⟨RX3, "isBetween", "(III)Z"⟩
abbrev cX3_isPropertyValue : ByteArray := prog_1_method_29_code
def yX3_isPropertyValue : MethodName := ⟨RX3, "isPropertyValue", "(II)Z"⟩
abbrev cX3_requireComponent : ByteArray := prog_1_method_30_code
def yX3_requireComponent : MethodName := ⟨RX3, "requireComponent", "(I)V"⟩
abbrev cX3_requireInstance : ByteArray := prog_1_method_31_code
def yX3_requireInstance : MethodName := ⟨RX3, "requireInstance", "(I)V"⟩
abbrev cX3_requireProperty : ByteArray := prog_1_method_32_code
def yX3_requireProperty : MethodName := ⟨RX3, "requireProperty", "(I)V"⟩
abbrev cX3_requireTypeAndQualifier : ByteArray := prog_1_method_33_code
def yX3_requireTypeAndQualifier : MethodName := ⟨RX3, "requireTypeAndQualifier", "(II)V"⟩
abbrev cX3_tryConstruction : ByteArray := prog_1_method_34_code
def yX3_tryConstruction : MethodName := ⟨RX3, "tryConstruction", "(II)I"⟩
abbrev cX3_tryDependency : ByteArray := prog_1_method_35_code
def yX3_tryDependency : MethodName := ⟨RX3, "tryDependency", "(III)I"⟩
abbrev cX3_tryEach : ByteArray := prog_1_method_36_code
def yX3_tryEach : MethodName := ⟨RX3, "tryEach", "(II)I"⟩
abbrev cX3_requestOrThrow : ByteArray := prog_1_method_37_code
def yX3_requestOrThrow : MethodName := ⟨RX3, "requestOrThrow", "(II)I"⟩
abbrev cX3_request : ByteArray := prog_1_method_38_code
def yX3_request : MethodName := ⟨RX3, "request", "(III)I"⟩
abbrev cX3_obtain : ByteArray := prog_1_method_39_code
def yX3_obtain : MethodName := ⟨RX3, "obtain", "(II)I"⟩
abbrev cX3_construct : ByteArray := prog_1_method_40_code
def yX3_construct : MethodName := ⟨RX3, "construct", "(III)I"⟩
abbrev cX3_isUnderConstruction : ByteArray := prog_1_method_41_code
def yX3_isUnderConstruction : MethodName := ⟨RX3, "isUnderConstruction", "(II)Z"⟩
abbrev cX3_inject : ByteArray := prog_1_method_42_code
def yX3_inject : MethodName := ⟨RX3, "inject", "(III)I"⟩
abbrev cX3_obtainEach : ByteArray := prog_1_method_43_code
def yX3_obtainEach : MethodName := ⟨RX3, "obtainEach", "(II)I"⟩
abbrev cX3_complete : ByteArray := prog_1_method_44_code
def yX3_complete : MethodName := ⟨RX3, "complete", "(III)I"⟩
abbrev cX3_recordFailure : ByteArray := prog_1_method_45_code
def yX3_recordFailure : MethodName := ⟨RX3, "recordFailure", "(III)I"⟩
abbrev cX3_closeInnermostScope : ByteArray := prog_1_method_46_code
def yX3_closeInnermostScope : MethodName := ⟨RX3, "closeInnermostScope", "()I"⟩
abbrev cX3_isIn : ByteArray := prog_1_method_47_code
def yX3_isIn : MethodName := ⟨RX3, "isIn", "(II)Z"⟩
def RX4 : String := "ComponentContainerModel"
def TX4 : u_T := fun k => match k with
  | 0 => ("ComponentContainerModel", "thrown", "I", false)
  | 1 => ("ComponentContainerModel", "many", "I", false)
  | 2 => ("ComponentContainerModel", "properties", "[I", true)
  | 3 => ("ComponentContainerModel", "dependMany", "[I", true)
  | 4 => ("ComponentContainerModel", "depends", "[I", true)
  | 5 => ("ComponentContainerModel", "completed", "[I", true)
  | 6 => ("ComponentContainerModel", "profiles", "I", false)
  | 7 => ("ComponentContainerModel", "frame", "[I", true)
  | 8 => ("ComponentContainerModel", "frameDepend", "[I", true)
  | 9 => ("ComponentContainerModel", "frameLeft", "[I", true)
  | 10 => ("ComponentContainerModel", "deep", "I", false)
  | 11 => ("ComponentContainerModel", "known", "I", false)
  | 12 => ("ComponentContainerModel", "total", "I", false)
  | 13 => ("ComponentContainerModel", "instanceOf", "[I", true)
  | 14 => ("ComponentContainerModel", "instanceAs", "[I", true)
  | 15 => ("ComponentContainerModel", "instanceScope", "[I", true)
  | 16 => ("ComponentContainerModel", "isLiving", "[Z", true)
  | 17 => ("ComponentContainerModel", "injectedMany", "[I", true)
  | 18 => ("ComponentContainerModel", "injected", "[I", true)
  | 19 => ("ComponentContainerModel", "open", "I", false)
  | 20 => ("ComponentContainerModel", "events", "I", false)
  | 21 => ("ComponentContainerModel", "event", "[I", true)
  | 22 => ("ComponentContainerModel", "kind", "I", false)
  | 23 => ("ComponentContainerModel", "detail", "I", false)
  | 24 => ("ComponentContainerModel", "chainMany", "I", false)
  | 25 => ("ComponentContainerModel", "chain", "[I", true)
  | 26 => ("ComponentContainerModel", "frameAs", "[I", true)
  | 27 => ("ComponentContainerModel", "isAwaiting", "[Z", true)
  | 28 => ("ComponentContainerModel", "frameEvery", "[I", true)
  | 29 => ("ComponentContainerModel", "frameInjected", "[I", true)
  | 30 => ("ComponentContainerModel", "obtained", "I", false)
  | 31 => ("ComponentContainerModel", "failure", "I", false)
  | _ => ("ComponentContainerModel", "failed", "I", false)
def tyX4 : Nat → FieldType := fun k => match k with
  | 0 => .int
  | 1 => .int
  | 2 => .array .int
  | 3 => .array .int
  | 4 => .array .int
  | 5 => .array .int
  | 6 => .int
  | 7 => .array .int
  | 8 => .array .int
  | 9 => .array .int
  | 10 => .int
  | 11 => .int
  | 12 => .int
  | 13 => .array .int
  | 14 => .array .int
  | 15 => .array .int
  | 16 => .array .boolean
  | 17 => .array .int
  | 18 => .array .int
  | 19 => .int
  | 20 => .int
  | 21 => .array .int
  | 22 => .int
  | 23 => .int
  | 24 => .int
  | 25 => .array .int
  | 26 => .array .int
  | 27 => .array .boolean
  | 28 => .array .int
  | 29 => .array .int
  | 30 => .int
  | 31 => .int
  | _ => .int
abbrev wsX40 : List Cond := u_ws RX4 TX4 33
theorem nmX4 : ∀ a, a < 33 → ∀ b, b < 33 → a ≠ b → (TX4 a).2.1 ≠ (TX4 b).2.1 := by decide +kernel
theorem tyX4_ok : ∀ k, k < 33 → parseFieldDescriptor (TX4 k).2.2.1 = some (tyX4 k) := by decide +kernel
abbrev cX4_init : ByteArray := prog_6_method_1_code
def yX4_init : MethodName := ⟨RX4, "<init>", "()V"⟩
abbrev cX4_thrown : ByteArray := prog_6_method_2_code
def yX4_thrown : MethodName := ⟨RX4, "thrown", "()I"⟩
abbrev cX4_in : ByteArray := prog_6_method_3_code
def yX4_in : MethodName := ⟨RX4, "in", "(III)Z"⟩
abbrev cX4_isComponent : ByteArray := prog_6_method_4_code
def yX4_isComponent : MethodName := ⟨RX4, "isComponent", "(I)Z"⟩
abbrev cX4_of : ByteArray := prog_6_method_5_code
def yX4_of : MethodName := ⟨RX4, "of", "(II)I"⟩
abbrev cX4_add : ByteArray := prog_6_method_6_code
def yX4_add : MethodName := ⟨RX4, "add", "(II)I"⟩
abbrev cX4_isValue : ByteArray := prog_6_method_7_code
def yX4_isValue : MethodName := ⟨RX4, "isValue", "(II)Z"⟩
abbrev cX4_set : ByteArray := prog_6_method_8_code
def yX4_set : MethodName := ⟨RX4, "set", "(III)I"⟩
abbrev cX4_property : ByteArray := prog_6_method_9_code
def yX4_property : MethodName := ⟨RX4, "property", "(II)I"⟩
abbrev cX4_isAsked : ByteArray := prog_6_method_10_code
def yX4_isAsked : MethodName := ⟨RX4, "isAsked", "(II)Z"⟩
abbrev cX4_dependAt : ByteArray := prog_6_method_11_code
def yX4_dependAt : MethodName := ⟨RX4, "dependAt", "(III)I"⟩
abbrev cX4_depend : ByteArray := prog_6_method_12_code
def yX4_depend : MethodName := ⟨RX4, "depend", "(IIII)I"⟩
abbrev cX4_clear : ByteArray := prog_6_method_13_code
def yX4_clear : MethodName := ⟨RX4, "clear", "(I)I"⟩
abbrev cX4_dependency : ByteArray := prog_6_method_14_code
def yX4_dependency : MethodName := ⟨RX4, "dependency", "(III)I"⟩
abbrev cX4_profile : ByteArray := prog_6_method_15_code
def yX4_profile : MethodName := ⟨RX4, "profile", "(IZ)Z"⟩
abbrev cX4_components : ByteArray := prog_6_method_16_code
def yX4_components : MethodName := ⟨RX4, "components", "()I"⟩
abbrev cX4_isActive : ByteArray := prog_6_method_17_code
def yX4_isActive : MethodName := ⟨RX4, "isActive", "(I)Z"⟩
abbrev cX4_candidatesFor : ByteArray := prog_6_method_18_code
def yX4_candidatesFor : MethodName := ⟨RX4, "candidatesFor", "(II)I"⟩
abbrev cX4_bits : ByteArray := prog_6_method_19_code
def yX4_bits : MethodName := ⟨RX4, "bits", "(I)I"⟩
abbrev cX4_lowest : ByteArray := prog_6_method_20_code
def yX4_lowest : MethodName := ⟨RX4, "lowest", "(I)I"⟩
abbrev cX4_choose : ByteArray := prog_6_method_21_code
def yX4_choose : MethodName := ⟨RX4, "choose", "(II)I"⟩
abbrev cX4_candidates : ByteArray := prog_6_method_22_code
def yX4_candidates : MethodName := ⟨RX4, "candidates", "(II)I"⟩
abbrev cX4_chosen : ByteArray := prog_6_method_23_code
def yX4_chosen : MethodName := ⟨RX4, "chosen", "(II)I"⟩
abbrev cX4_isInFrames : ByteArray := prog_6_method_24_code
def yX4_isInFrames : MethodName := ⟨RX4, "isInFrames", "(I)Z"⟩
abbrev cX4_push : ByteArray := prog_6_method_25_code
def yX4_push : MethodName := ⟨RX4, "push", "(I)V"⟩
abbrev cX4_wanted : ByteArray := prog_6_method_26_code
def yX4_wanted : MethodName := ⟨RX4, "wanted", "(II)I"⟩
abbrev cX4_wouldGoOn : ByteArray := prog_6_method_27_code
def yX4_wouldGoOn : MethodName := ⟨RX4, "wouldGoOn", "()I"⟩
abbrev cX4_problem : ByteArray := prog_6_method_28_code
def yX4_problem : MethodName := ⟨RX4, "problem", "(I)I"⟩
abbrev cX4_directly : ByteArray := prog_6_method_29_code
def yX4_directly : MethodName := ⟨RX4, "directly", "(I)I"⟩
abbrev cX4_needs : ByteArray := prog_6_method_30_code
def yX4_needs : MethodName := ⟨RX4, "needs", "(I)I"⟩
abbrev cX4_fail : ByteArray := prog_6_method_31_code
def yX4_fail : MethodName := ⟨RX4, "fail", "(II)V"⟩
abbrev cX4_construct : ByteArray := prog_6_method_32_code
def yX4_construct : MethodName := ⟨RX4, "construct", "(II)V"⟩
abbrev cX4_living : ByteArray := prog_6_method_33_code
def yX4_living : MethodName := ⟨RX4, "living", "(II)I"⟩
abbrev cX4_obtain : ByteArray := prog_6_method_34_code
def yX4_obtain : MethodName := ⟨RX4, "obtain", "(I)V"⟩
abbrev cX4_inject : ByteArray := prog_6_method_35_code
def yX4_inject : MethodName := ⟨RX4, "inject", "(II)V"⟩
abbrev cX4_serve : ByteArray := prog_6_method_36_code
def yX4_serve : MethodName := ⟨RX4, "serve", "(I)V"⟩
abbrev cX4_receive : ByteArray := prog_6_method_37_code
def yX4_receive : MethodName := ⟨RX4, "receive", "(I)V"⟩
abbrev cX4_note : ByteArray := prog_6_method_38_code
def yX4_note : MethodName := ⟨RX4, "note", "(I)V"⟩
abbrev cX4_complete : ByteArray := prog_6_method_39_code
def yX4_complete : MethodName := ⟨RX4, "complete", "(I)V"⟩
abbrev cX4_goOn : ByteArray := prog_6_method_40_code
def yX4_goOn : MethodName := ⟨RX4, "goOn", "()V"⟩
abbrev cX4_clean : ByteArray := prog_6_method_41_code
def yX4_clean : MethodName := ⟨RX4, "clean", "()V"⟩
abbrev cX4_destroy : ByteArray := prog_6_method_42_code
def yX4_destroy : MethodName := ⟨RX4, "destroy", "(I)V"⟩
abbrev cX4_make : ByteArray := prog_6_method_43_code
def yX4_make : MethodName := ⟨RX4, "make", "(I)V"⟩
abbrev cX4_settle : ByteArray := prog_6_method_44_code
def yX4_settle : MethodName := ⟨RX4, "settle", "(I)Z"⟩
abbrev cX4_request : ByteArray := prog_6_method_45_code
def yX4_request : MethodName := ⟨RX4, "request", "(II)I"⟩
abbrev cX4_resolve : ByteArray := prog_6_method_46_code
def yX4_resolve : MethodName := ⟨RX4, "resolve", "(II)I"⟩
abbrev cX4_isInstance : ByteArray := prog_6_method_47_code
def yX4_isInstance : MethodName := ⟨RX4, "isInstance", "(I)Z"⟩
abbrev cX4_isLater : ByteArray := prog_6_method_48_code
def yX4_isLater : MethodName := ⟨RX4, "isLater", "(II)Z"⟩
abbrev cX4_provide : ByteArray := prog_6_method_49_code
def yX4_provide : MethodName := ⟨RX4, "provide", "(II)I"⟩
abbrev cX4_start : ByteArray := prog_6_method_50_code
def yX4_start : MethodName := ⟨RX4, "start", "()I"⟩
abbrev cX4_begin : ByteArray := prog_6_method_51_code
def yX4_begin : MethodName := ⟨RX4, "begin", "()I"⟩
abbrev cX4_endScope : ByteArray := prog_6_method_52_code
def yX4_endScope : MethodName := ⟨RX4, "endScope", "()I"⟩
abbrev cX4_end : ByteArray := prog_6_method_53_code
def yX4_end : MethodName := ⟨RX4, "end", "()I"⟩
abbrev cX4_close : ByteArray := prog_6_method_54_code
def yX4_close : MethodName := ⟨RX4, "close", "()I"⟩
abbrev cX4_instances : ByteArray := prog_6_method_55_code
def yX4_instances : MethodName := ⟨RX4, "instances", "()I"⟩
abbrev cX4_componentOf : ByteArray := prog_6_method_56_code
def yX4_componentOf : MethodName := ⟨RX4, "componentOf", "(I)I"⟩
abbrev cX4_isAlive : ByteArray := prog_6_method_57_code
def yX4_isAlive : MethodName := ⟨RX4, "isAlive", "(I)Z"⟩
abbrev cX4_injected : ByteArray := prog_6_method_58_code
def yX4_injected : MethodName := ⟨RX4, "injected", "(II)I"⟩
abbrev cX4_event : ByteArray := prog_6_method_59_code
def yX4_event : MethodName := ⟨RX4, "event", "(I)I"⟩
abbrev cX4_failureKind : ByteArray := prog_6_method_60_code
def yX4_failureKind : MethodName := ⟨RX4, "failureKind", "()I"⟩
abbrev cX4_failureDetail : ByteArray := prog_6_method_61_code
def yX4_failureDetail : MethodName := ⟨RX4, "failureDetail", "()I"⟩
abbrev cX4_failureChain : ByteArray := prog_6_method_62_code
def yX4_failureChain : MethodName := ⟨RX4, "failureChain", "(I)I"⟩
def RJx145de : String := "java/io/Serializable"
def TJx145de : u_T := fun k => match k with
  | _ => ("", "", "", false)
def tyJx145de : Nat → FieldType := fun k => match k with
  | _ => .int
abbrev wsJx145de0 : List Cond := u_ws RJx145de TJx145de 0
theorem nmJx145de : ∀ a, a < 0 → ∀ b, b < 0 → a ≠ b → (TJx145de a).2.1 ≠ (TJx145de b).2.1 := by decide +kernel
theorem tyJx145de_ok : ∀ k, k < 0 → parseFieldDescriptor (TJx145de k).2.2.1 = some (tyJx145de k) := by decide +kernel
def RJ0 : String := "java/lang/String"
def TJ0 : u_T := fun k => match k with
  | _ => ("", "", "", false)
def tyJ0 : Nat → FieldType := fun k => match k with
  | _ => .int
abbrev wsJ00 : List Cond := u_ws RJ0 TJ0 0
theorem nmJ0 : ∀ a, a < 0 → ∀ b, b < 0 → a ≠ b → (TJ0 a).2.1 ≠ (TJ0 b).2.1 := by decide +kernel
theorem tyJ0_ok : ∀ k, k < 0 → parseFieldDescriptor (TJ0 k).2.2.1 = some (tyJ0 k) := by decide +kernel
def RJ10 : String := "java/lang/System"
def TJ10 : u_T := fun k => match k with
  | _ => ("", "", "", false)
def tyJ10 : Nat → FieldType := fun k => match k with
  | _ => .int
abbrev wsJ100 : List Cond := u_ws RJ10 TJ10 0
theorem nmJ10 : ∀ a, a < 0 → ∀ b, b < 0 → a ≠ b → (TJ10 a).2.1 ≠ (TJ10 b).2.1 := by decide +kernel
theorem tyJ10_ok : ∀ k, k < 0 → parseFieldDescriptor (TJ10 k).2.2.1 = some (tyJ10 k) := by decide +kernel
def RJ7 : String := "java/util/Arrays"
def TJ7 : u_T := fun k => match k with
  | _ => ("", "", "", false)
def tyJ7 : Nat → FieldType := fun k => match k with
  | _ => .int
abbrev wsJ70 : List Cond := u_ws RJ7 TJ7 0
theorem nmJ7 : ∀ a, a < 0 → ∀ b, b < 0 → a ≠ b → (TJ7 a).2.1 ≠ (TJ7 b).2.1 := by decide +kernel
theorem tyJ7_ok : ∀ k, k < 0 → parseFieldDescriptor (TJ7 k).2.2.1 = some (tyJ7 k) := by decide +kernel
abbrev cJ7_fill_53178 : ByteArray := prog_15_method_103_code
def yJ7_fill_53178 : MethodName := ⟨RJ7, "fill", "([II)V"⟩
def RL : String := "ComponentContainerLaw"
abbrev cL_add : ByteArray := method_3_code
def yL_add : MethodName := ⟨RL, "add", "(LComponentContainer;II[J)I"⟩
abbrev cL_set : ByteArray := method_4_code
def yL_set : MethodName := ⟨RL, "set", "(LComponentContainer;III[J)I"⟩
abbrev cL_property : ByteArray := method_5_code
def yL_property : MethodName := ⟨RL, "property", "(LComponentContainer;II[J)I"⟩
abbrev cL_depend : ByteArray := method_6_code
def yL_depend : MethodName := ⟨RL, "depend", "(LComponentContainer;IIII[J)I"⟩
abbrev cL_clear : ByteArray := method_7_code
def yL_clear : MethodName := ⟨RL, "clear", "(LComponentContainer;I[J)I"⟩
abbrev cL_dependency : ByteArray := method_8_code
def yL_dependency : MethodName := ⟨RL, "dependency", "(LComponentContainer;III[J)I"⟩
abbrev cL_profile : ByteArray := method_9_code
def yL_profile : MethodName := ⟨RL, "profile", "(LComponentContainer;IZ[J)I"⟩
abbrev cL_candidates : ByteArray := method_10_code
def yL_candidates : MethodName := ⟨RL, "candidates", "(LComponentContainer;II[J)I"⟩
abbrev cL_chosen : ByteArray := method_11_code
def yL_chosen : MethodName := ⟨RL, "chosen", "(LComponentContainer;II[J)I"⟩
abbrev cL_problem : ByteArray := method_12_code
def yL_problem : MethodName := ⟨RL, "problem", "(LComponentContainer;I[J)I"⟩
abbrev cL_needs : ByteArray := method_13_code
def yL_needs : MethodName := ⟨RL, "needs", "(LComponentContainer;I[J)I"⟩
abbrev cL_resolve : ByteArray := method_14_code
def yL_resolve : MethodName := ⟨RL, "resolve", "(LComponentContainer;II[J)I"⟩
abbrev cL_provide : ByteArray := method_15_code
def yL_provide : MethodName := ⟨RL, "provide", "(LComponentContainer;II[J)I"⟩
abbrev cL_start : ByteArray := method_16_code
def yL_start : MethodName := ⟨RL, "start", "(LComponentContainer;[J)I"⟩
abbrev cL_begin : ByteArray := method_17_code
def yL_begin : MethodName := ⟨RL, "begin", "(LComponentContainer;[J)I"⟩
abbrev cL_end : ByteArray := method_18_code
def yL_end : MethodName := ⟨RL, "end", "(LComponentContainer;[J)I"⟩
abbrev cL_componentOf : ByteArray := method_19_code
def yL_componentOf : MethodName := ⟨RL, "componentOf", "(LComponentContainer;I[J)I"⟩
abbrev cL_isAlive : ByteArray := method_20_code
def yL_isAlive : MethodName := ⟨RL, "isAlive", "(LComponentContainer;I[J)I"⟩
abbrev cL_injected : ByteArray := method_21_code
def yL_injected : MethodName := ⟨RL, "injected", "(LComponentContainer;II[J)I"⟩
abbrev cL_law : ByteArray := code
def yL_law : MethodName := ⟨RL, "law", "([I)Z"⟩
abbrev vwCl : List vw_C := [(RX0, TX0, 5), (RX1, TX1, 4), (RX2, TX2, 10), (RX3, TX3, 7), (RX4, TX4, 33)]
theorem dX0_init_0 : decode cX0_init 0 = .ok (.aload_n 0, 1) := by decide +kernel
theorem dX0_init_1 : decode cX0_init 1 = .ok (.invokespecial 3, 3) := by decide +kernel
theorem dX0_init_4 : decode cX0_init 4 = .ok (.aload_n 0, 1) := by decide +kernel
theorem dX0_init_5 : decode cX0_init 5 = .ok (.bipush 20, 2) := by decide +kernel
theorem dX0_init_7 : decode cX0_init 7 = .ok (.bipush 7, 2) := by decide +kernel
theorem dX0_init_9 : decode cX0_init 9 = .ok (.multianewarray 9 2, 4) := by decide +kernel
theorem dX0_init_13 : decode cX0_init 13 = .ok (.putfield 11, 3) := by decide +kernel
theorem dX0_init_16 : decode cX0_init 16 = .ok (.aload_n 0, 1) := by decide +kernel
theorem dX0_init_17 : decode cX0_init 17 = .ok (.bipush 20, 2) := by decide +kernel
theorem dX0_init_19 : decode cX0_init 19 = .ok (.bipush 18, 2) := by decide +kernel
theorem dX0_init_21 : decode cX0_init 21 = .ok (.multianewarray 9 2, 4) := by decide +kernel
theorem dX0_init_25 : decode cX0_init 25 = .ok (.putfield 16, 3) := by decide +kernel
theorem dX0_init_28 : decode cX0_init 28 = .ok (.aload_n 0, 1) := by decide +kernel
theorem dX0_init_29 : decode cX0_init 29 = .ok (.bipush 20, 2) := by decide +kernel
theorem dX0_init_31 : decode cX0_init 31 = .ok (.newarray .int, 2) := by decide +kernel
theorem dX0_init_33 : decode cX0_init 33 = .ok (.putfield 19, 3) := by decide +kernel
theorem dX0_init_36 : decode cX0_init 36 = .ok (.aload_n 0, 1) := by decide +kernel
theorem dX0_init_37 : decode cX0_init 37 = .ok (.iconst 0, 1) := by decide +kernel
theorem dX0_init_38 : decode cX0_init 38 = .ok (.putfield 23, 3) := by decide +kernel
theorem dX0_init_41 : decode cX0_init 41 = .ok (.aload_n 0, 1) := by decide +kernel
theorem dX0_init_42 : decode cX0_init 42 = .ok (.iconst 0, 1) := by decide +kernel
theorem dX0_init_43 : decode cX0_init 43 = .ok (.putfield 27, 3) := by decide +kernel
theorem dX0_init_46 : decode cX0_init 46 = .ok (.return_, 1) := by decide +kernel
theorem dX0_append_0 : decode cX0_append 0 = .ok (.aload_n 0, 1) := by decide +kernel
theorem dX0_append_1 : decode cX0_append 1 = .ok (.getfield 11, 3) := by decide +kernel
theorem dX0_append_4 : decode cX0_append 4 = .ok (.aload_n 0, 1) := by decide +kernel
theorem dX0_append_5 : decode cX0_append 5 = .ok (.getfield 23, 3) := by decide +kernel
theorem dX0_append_8 : decode cX0_append 8 = .ok (.aaload, 1) := by decide +kernel
theorem dX0_append_9 : decode cX0_append 9 = .ok (.astore_n 3, 1) := by decide +kernel
theorem dX0_append_10 : decode cX0_append 10 = .ok (.aload_n 3, 1) := by decide +kernel
theorem dX0_append_11 : decode cX0_append 11 = .ok (.iconst 0, 1) := by decide +kernel
theorem dX0_append_12 : decode cX0_append 12 = .ok (.iload_n 1, 1) := by decide +kernel
theorem dX0_append_13 : decode cX0_append 13 = .ok (.iastore, 1) := by decide +kernel
theorem dX0_append_14 : decode cX0_append 14 = .ok (.aload_n 3, 1) := by decide +kernel
theorem dX0_append_15 : decode cX0_append 15 = .ok (.iconst 1, 1) := by decide +kernel
theorem dX0_append_16 : decode cX0_append 16 = .ok (.iload_n 2, 1) := by decide +kernel
theorem dX0_append_17 : decode cX0_append 17 = .ok (.iastore, 1) := by decide +kernel
theorem dX0_append_18 : decode cX0_append 18 = .ok (.aload_n 3, 1) := by decide +kernel
theorem dX0_append_19 : decode cX0_append 19 = .ok (.iconst 2, 1) := by decide +kernel
theorem dX0_append_20 : decode cX0_append 20 = .ok (.iconst (-1), 1) := by decide +kernel
theorem dX0_append_21 : decode cX0_append 21 = .ok (.iastore, 1) := by decide +kernel
theorem dX0_append_22 : decode cX0_append 22 = .ok (.aload_n 3, 1) := by decide +kernel
theorem dX0_append_23 : decode cX0_append 23 = .ok (.iconst 5, 1) := by decide +kernel
theorem dX0_append_24 : decode cX0_append 24 = .ok (.iconst (-1), 1) := by decide +kernel
theorem dX0_append_25 : decode cX0_append 25 = .ok (.iastore, 1) := by decide +kernel
theorem dX0_append_26 : decode cX0_append 26 = .ok (.aload_n 3, 1) := by decide +kernel
theorem dX0_append_27 : decode cX0_append 27 = .ok (.bipush 6, 2) := by decide +kernel
theorem dX0_append_29 : decode cX0_append 29 = .ok (.iconst (-1), 1) := by decide +kernel
theorem dX0_append_30 : decode cX0_append 30 = .ok (.iastore, 1) := by decide +kernel
theorem dX0_append_31 : decode cX0_append 31 = .ok (.aload_n 0, 1) := by decide +kernel
theorem dX0_append_32 : decode cX0_append 32 = .ok (.dup, 1) := by decide +kernel
theorem dX0_append_33 : decode cX0_append 33 = .ok (.getfield 23, 3) := by decide +kernel
theorem dX0_append_36 : decode cX0_append 36 = .ok (.iconst 1, 1) := by decide +kernel
theorem dX0_append_37 : decode cX0_append 37 = .ok (.iadd, 1) := by decide +kernel
theorem dX0_append_38 : decode cX0_append 38 = .ok (.putfield 23, 3) := by decide +kernel
theorem dX0_append_41 : decode cX0_append 41 = .ok (.aload_n 0, 1) := by decide +kernel
theorem dX0_append_42 : decode cX0_append 42 = .ok (.getfield 23, 3) := by decide +kernel
theorem dX0_append_45 : decode cX0_append 45 = .ok (.iconst 1, 1) := by decide +kernel
theorem dX0_append_46 : decode cX0_append 46 = .ok (.isub, 1) := by decide +kernel
theorem dX0_append_47 : decode cX0_append 47 = .ok (.ireturn, 1) := by decide +kernel
theorem dX0_appendDependency_0 : decode cX0_appendDependency 0 = .ok (.aload_n 0, 1) := by decide +kernel
theorem dX0_appendDependency_1 : decode cX0_appendDependency 1 = .ok (.getfield 19, 3) := by decide +kernel
theorem dX0_appendDependency_4 : decode cX0_appendDependency 4 = .ok (.iload_n 1, 1) := by decide +kernel
theorem dX0_appendDependency_5 : decode cX0_appendDependency 5 = .ok (.iaload, 1) := by decide +kernel
theorem dX0_appendDependency_6 : decode cX0_appendDependency 6 = .ok (.istore 5, 2) := by decide +kernel
theorem dX0_appendDependency_8 : decode cX0_appendDependency 8 = .ok (.iload 5, 2) := by decide +kernel
theorem dX0_appendDependency_10 : decode cX0_appendDependency 10 = .ok (.iconst 3, 1) := by decide +kernel
theorem dX0_appendDependency_11 : decode cX0_appendDependency 11 = .ok (.imul, 1) := by decide +kernel
theorem dX0_appendDependency_12 : decode cX0_appendDependency 12 = .ok (.istore 6, 2) := by decide +kernel
theorem dX0_appendDependency_14 : decode cX0_appendDependency 14 = .ok (.aload_n 0, 1) := by decide +kernel
theorem dX0_appendDependency_15 : decode cX0_appendDependency 15 = .ok (.getfield 16, 3) := by decide +kernel
theorem dX0_appendDependency_18 : decode cX0_appendDependency 18 = .ok (.iload_n 1, 1) := by decide +kernel
theorem dX0_appendDependency_19 : decode cX0_appendDependency 19 = .ok (.aaload, 1) := by decide +kernel
theorem dX0_appendDependency_20 : decode cX0_appendDependency 20 = .ok (.iload 6, 2) := by decide +kernel
theorem dX0_appendDependency_22 : decode cX0_appendDependency 22 = .ok (.iconst 0, 1) := by decide +kernel
theorem dX0_appendDependency_23 : decode cX0_appendDependency 23 = .ok (.iadd, 1) := by decide +kernel
theorem dX0_appendDependency_24 : decode cX0_appendDependency 24 = .ok (.iload_n 2, 1) := by decide +kernel
theorem dX0_appendDependency_25 : decode cX0_appendDependency 25 = .ok (.iastore, 1) := by decide +kernel
theorem dX0_appendDependency_26 : decode cX0_appendDependency 26 = .ok (.aload_n 0, 1) := by decide +kernel
theorem dX0_appendDependency_27 : decode cX0_appendDependency 27 = .ok (.getfield 16, 3) := by decide +kernel
theorem dX0_appendDependency_30 : decode cX0_appendDependency 30 = .ok (.iload_n 1, 1) := by decide +kernel
theorem dX0_appendDependency_31 : decode cX0_appendDependency 31 = .ok (.aaload, 1) := by decide +kernel
theorem dX0_appendDependency_32 : decode cX0_appendDependency 32 = .ok (.iload 6, 2) := by decide +kernel
theorem dX0_appendDependency_34 : decode cX0_appendDependency 34 = .ok (.iconst 1, 1) := by decide +kernel
theorem dX0_appendDependency_35 : decode cX0_appendDependency 35 = .ok (.iadd, 1) := by decide +kernel
theorem dX0_appendDependency_36 : decode cX0_appendDependency 36 = .ok (.iload_n 3, 1) := by decide +kernel
theorem dX0_appendDependency_37 : decode cX0_appendDependency 37 = .ok (.iastore, 1) := by decide +kernel
theorem dX0_appendDependency_38 : decode cX0_appendDependency 38 = .ok (.aload_n 0, 1) := by decide +kernel
theorem dX0_appendDependency_39 : decode cX0_appendDependency 39 = .ok (.getfield 16, 3) := by decide +kernel
theorem dX0_appendDependency_42 : decode cX0_appendDependency 42 = .ok (.iload_n 1, 1) := by decide +kernel
theorem dX0_appendDependency_43 : decode cX0_appendDependency 43 = .ok (.aaload, 1) := by decide +kernel
theorem dX0_appendDependency_44 : decode cX0_appendDependency 44 = .ok (.iload 6, 2) := by decide +kernel
theorem dX0_appendDependency_46 : decode cX0_appendDependency 46 = .ok (.iconst 2, 1) := by decide +kernel
theorem dX0_appendDependency_47 : decode cX0_appendDependency 47 = .ok (.iadd, 1) := by decide +kernel
theorem dX0_appendDependency_48 : decode cX0_appendDependency 48 = .ok (.iload 4, 2) := by decide +kernel
theorem dX0_appendDependency_50 : decode cX0_appendDependency 50 = .ok (.iastore, 1) := by decide +kernel
theorem dX0_appendDependency_51 : decode cX0_appendDependency 51 = .ok (.aload_n 0, 1) := by decide +kernel
theorem dX0_appendDependency_52 : decode cX0_appendDependency 52 = .ok (.getfield 19, 3) := by decide +kernel
theorem dX0_appendDependency_55 : decode cX0_appendDependency 55 = .ok (.iload_n 1, 1) := by decide +kernel
theorem dX0_appendDependency_56 : decode cX0_appendDependency 56 = .ok (.iload 5, 2) := by decide +kernel
theorem dX0_appendDependency_58 : decode cX0_appendDependency 58 = .ok (.iconst 1, 1) := by decide +kernel
theorem dX0_appendDependency_59 : decode cX0_appendDependency 59 = .ok (.iadd, 1) := by decide +kernel
theorem dX0_appendDependency_60 : decode cX0_appendDependency 60 = .ok (.iastore, 1) := by decide +kernel
theorem dX0_appendDependency_61 : decode cX0_appendDependency 61 = .ok (.iload 5, 2) := by decide +kernel
theorem dX0_appendDependency_63 : decode cX0_appendDependency 63 = .ok (.ireturn, 1) := by decide +kernel
theorem dX0_hasDependency_0 : decode cX0_hasDependency 0 = .ok (.iload_n 2, 1) := by decide +kernel
theorem dX0_hasDependency_1 : decode cX0_hasDependency 1 = .ok (.ifCond .lt 17, 3) := by decide +kernel
theorem dX0_hasDependency_4 : decode cX0_hasDependency 4 = .ok (.iload_n 2, 1) := by decide +kernel
theorem dX0_hasDependency_5 : decode cX0_hasDependency 5 = .ok (.aload_n 0, 1) := by decide +kernel
theorem dX0_hasDependency_6 : decode cX0_hasDependency 6 = .ok (.getfield 19, 3) := by decide +kernel
theorem dX0_hasDependency_9 : decode cX0_hasDependency 9 = .ok (.iload_n 1, 1) := by decide +kernel
theorem dX0_hasDependency_10 : decode cX0_hasDependency 10 = .ok (.iaload, 1) := by decide +kernel
theorem dX0_hasDependency_11 : decode cX0_hasDependency 11 = .ok (.if_icmp .ge 7, 3) := by decide +kernel
theorem dX0_hasDependency_14 : decode cX0_hasDependency 14 = .ok (.iconst 1, 1) := by decide +kernel
theorem dX0_hasDependency_15 : decode cX0_hasDependency 15 = .ok (.goto 4, 3) := by decide +kernel
theorem dX0_hasDependency_18 : decode cX0_hasDependency 18 = .ok (.iconst 0, 1) := by decide +kernel
theorem dX0_hasDependency_19 : decode cX0_hasDependency 19 = .ok (.ireturn, 1) := by decide +kernel
theorem dX0_partOf_0 : decode cX0_partOf 0 = .ok (.aload_n 0, 1) := by decide +kernel
theorem dX0_partOf_1 : decode cX0_partOf 1 = .ok (.getfield 16, 3) := by decide +kernel
theorem dX0_partOf_4 : decode cX0_partOf 4 = .ok (.iload_n 1, 1) := by decide +kernel
theorem dX0_partOf_5 : decode cX0_partOf 5 = .ok (.aaload, 1) := by decide +kernel
theorem dX0_partOf_6 : decode cX0_partOf 6 = .ok (.iload_n 2, 1) := by decide +kernel
theorem dX0_partOf_7 : decode cX0_partOf 7 = .ok (.iconst 3, 1) := by decide +kernel
theorem dX0_partOf_8 : decode cX0_partOf 8 = .ok (.imul, 1) := by decide +kernel
theorem dX0_partOf_9 : decode cX0_partOf 9 = .ok (.iload_n 3, 1) := by decide +kernel
theorem dX0_partOf_10 : decode cX0_partOf 10 = .ok (.iadd, 1) := by decide +kernel
theorem dX0_partOf_11 : decode cX0_partOf 11 = .ok (.iaload, 1) := by decide +kernel
theorem dX0_partOf_12 : decode cX0_partOf 12 = .ok (.ireturn, 1) := by decide +kernel
theorem dX0_turnProfile_0 : decode cX0_turnProfile 0 = .ok (.iconst 1, 1) := by decide +kernel
theorem dX0_turnProfile_1 : decode cX0_turnProfile 1 = .ok (.iload_n 1, 1) := by decide +kernel
theorem dX0_turnProfile_2 : decode cX0_turnProfile 2 = .ok (.ishl, 1) := by decide +kernel
theorem dX0_turnProfile_3 : decode cX0_turnProfile 3 = .ok (.istore_n 3, 1) := by decide +kernel
theorem dX0_turnProfile_4 : decode cX0_turnProfile 4 = .ok (.aload_n 0, 1) := by decide +kernel
theorem dX0_turnProfile_5 : decode cX0_turnProfile 5 = .ok (.iload_n 2, 1) := by decide +kernel
theorem dX0_turnProfile_6 : decode cX0_turnProfile 6 = .ok (.ifCond .eq 12, 3) := by decide +kernel
theorem dX0_turnProfile_9 : decode cX0_turnProfile 9 = .ok (.aload_n 0, 1) := by decide +kernel
theorem dX0_turnProfile_10 : decode cX0_turnProfile 10 = .ok (.getfield 27, 3) := by decide +kernel
theorem dX0_turnProfile_13 : decode cX0_turnProfile 13 = .ok (.iload_n 3, 1) := by decide +kernel
theorem dX0_turnProfile_14 : decode cX0_turnProfile 14 = .ok (.ior, 1) := by decide +kernel
theorem dX0_turnProfile_15 : decode cX0_turnProfile 15 = .ok (.goto 11, 3) := by decide +kernel
theorem dX0_turnProfile_18 : decode cX0_turnProfile 18 = .ok (.aload_n 0, 1) := by decide +kernel
theorem dX0_turnProfile_19 : decode cX0_turnProfile 19 = .ok (.getfield 27, 3) := by decide +kernel
theorem dX0_turnProfile_22 : decode cX0_turnProfile 22 = .ok (.iload_n 3, 1) := by decide +kernel
theorem dX0_turnProfile_23 : decode cX0_turnProfile 23 = .ok (.iconst (-1), 1) := by decide +kernel
theorem dX0_turnProfile_24 : decode cX0_turnProfile 24 = .ok (.ixor, 1) := by decide +kernel
theorem dX0_turnProfile_25 : decode cX0_turnProfile 25 = .ok (.iand, 1) := by decide +kernel
theorem dX0_turnProfile_26 : decode cX0_turnProfile 26 = .ok (.putfield 27, 3) := by decide +kernel
theorem dX0_turnProfile_29 : decode cX0_turnProfile 29 = .ok (.return_, 1) := by decide +kernel
theorem dX0_isActive_0 : decode cX0_isActive 0 = .ok (.aload_n 0, 1) := by decide +kernel
theorem dX0_isActive_1 : decode cX0_isActive 1 = .ok (.getfield 11, 3) := by decide +kernel
theorem dX0_isActive_4 : decode cX0_isActive 4 = .ok (.iload_n 1, 1) := by decide +kernel
theorem dX0_isActive_5 : decode cX0_isActive 5 = .ok (.aaload, 1) := by decide +kernel
theorem dX0_isActive_6 : decode cX0_isActive 6 = .ok (.iconst 5, 1) := by decide +kernel
theorem dX0_isActive_7 : decode cX0_isActive 7 = .ok (.iaload, 1) := by decide +kernel
theorem dX0_isActive_8 : decode cX0_isActive 8 = .ok (.istore_n 2, 1) := by decide +kernel
theorem dX0_isActive_9 : decode cX0_isActive 9 = .ok (.iload_n 2, 1) := by decide +kernel
theorem dX0_isActive_10 : decode cX0_isActive 10 = .ok (.iconst (-1), 1) := by decide +kernel
theorem dX0_isActive_11 : decode cX0_isActive 11 = .ok (.if_icmp .eq 14, 3) := by decide +kernel
theorem dX0_isActive_14 : decode cX0_isActive 14 = .ok (.aload_n 0, 1) := by decide +kernel
theorem dX0_isActive_15 : decode cX0_isActive 15 = .ok (.getfield 27, 3) := by decide +kernel
theorem dX0_isActive_18 : decode cX0_isActive 18 = .ok (.iconst 1, 1) := by decide +kernel
theorem dX0_isActive_19 : decode cX0_isActive 19 = .ok (.iload_n 2, 1) := by decide +kernel
theorem dX0_isActive_20 : decode cX0_isActive 20 = .ok (.ishl, 1) := by decide +kernel
theorem dX0_isActive_21 : decode cX0_isActive 21 = .ok (.iand, 1) := by decide +kernel
theorem dX0_isActive_22 : decode cX0_isActive 22 = .ok (.ifCond .eq 7, 3) := by decide +kernel
theorem dX0_isActive_25 : decode cX0_isActive 25 = .ok (.iconst 1, 1) := by decide +kernel
theorem dX0_isActive_26 : decode cX0_isActive 26 = .ok (.goto 4, 3) := by decide +kernel
theorem dX0_isActive_29 : decode cX0_isActive 29 = .ok (.iconst 0, 1) := by decide +kernel
theorem dX0_isActive_30 : decode cX0_isActive 30 = .ok (.ireturn, 1) := by decide +kernel
theorem dX0_isStarted_0 : decode cX0_isStarted 0 = .ok (.aload_n 0, 1) := by decide +kernel
theorem dX0_isStarted_1 : decode cX0_isStarted 1 = .ok (.iload_n 1, 1) := by decide +kernel
theorem dX0_isStarted_2 : decode cX0_isStarted 2 = .ok (.invokevirtual 30, 3) := by decide +kernel
theorem dX0_isStarted_5 : decode cX0_isStarted 5 = .ok (.ifCond .eq 29, 3) := by decide +kernel
theorem dX0_isStarted_8 : decode cX0_isStarted 8 = .ok (.aload_n 0, 1) := by decide +kernel
theorem dX0_isStarted_9 : decode cX0_isStarted 9 = .ok (.getfield 11, 3) := by decide +kernel
theorem dX0_isStarted_12 : decode cX0_isStarted 12 = .ok (.iload_n 1, 1) := by decide +kernel
theorem dX0_isStarted_13 : decode cX0_isStarted 13 = .ok (.aaload, 1) := by decide +kernel
theorem dX0_isStarted_14 : decode cX0_isStarted 14 = .ok (.iconst 1, 1) := by decide +kernel
theorem dX0_isStarted_15 : decode cX0_isStarted 15 = .ok (.iaload, 1) := by decide +kernel
theorem dX0_isStarted_16 : decode cX0_isStarted 16 = .ok (.ifCond .ne 18, 3) := by decide +kernel
theorem dX0_isStarted_19 : decode cX0_isStarted 19 = .ok (.aload_n 0, 1) := by decide +kernel
theorem dX0_isStarted_20 : decode cX0_isStarted 20 = .ok (.getfield 11, 3) := by decide +kernel
theorem dX0_isStarted_23 : decode cX0_isStarted 23 = .ok (.iload_n 1, 1) := by decide +kernel
theorem dX0_isStarted_24 : decode cX0_isStarted 24 = .ok (.aaload, 1) := by decide +kernel
theorem dX0_isStarted_25 : decode cX0_isStarted 25 = .ok (.iconst 4, 1) := by decide +kernel
theorem dX0_isStarted_26 : decode cX0_isStarted 26 = .ok (.iaload, 1) := by decide +kernel
theorem dX0_isStarted_27 : decode cX0_isStarted 27 = .ok (.ifCond .ne 7, 3) := by decide +kernel
theorem dX0_isStarted_30 : decode cX0_isStarted 30 = .ok (.iconst 1, 1) := by decide +kernel
theorem dX0_isStarted_31 : decode cX0_isStarted 31 = .ok (.goto 4, 3) := by decide +kernel
theorem dX0_isStarted_34 : decode cX0_isStarted 34 = .ok (.iconst 0, 1) := by decide +kernel
theorem dX0_isStarted_35 : decode cX0_isStarted 35 = .ok (.ireturn, 1) := by decide +kernel
theorem dX0_provides_0 : decode cX0_provides 0 = .ok (.aload_n 0, 1) := by decide +kernel
theorem dX0_provides_1 : decode cX0_provides 1 = .ok (.getfield 11, 3) := by decide +kernel
theorem dX0_provides_4 : decode cX0_provides 4 = .ok (.iload_n 1, 1) := by decide +kernel
theorem dX0_provides_5 : decode cX0_provides 5 = .ok (.aaload, 1) := by decide +kernel
theorem dX0_provides_6 : decode cX0_provides 6 = .ok (.iconst 0, 1) := by decide +kernel
theorem dX0_provides_7 : decode cX0_provides 7 = .ok (.iaload, 1) := by decide +kernel
theorem dX0_provides_8 : decode cX0_provides 8 = .ok (.iconst 1, 1) := by decide +kernel
theorem dX0_provides_9 : decode cX0_provides 9 = .ok (.iload_n 2, 1) := by decide +kernel
theorem dX0_provides_10 : decode cX0_provides 10 = .ok (.ishl, 1) := by decide +kernel
theorem dX0_provides_11 : decode cX0_provides 11 = .ok (.iand, 1) := by decide +kernel
theorem dX0_provides_12 : decode cX0_provides 12 = .ok (.ifCond .eq 24, 3) := by decide +kernel
theorem dX0_provides_15 : decode cX0_provides 15 = .ok (.iload_n 3, 1) := by decide +kernel
theorem dX0_provides_16 : decode cX0_provides 16 = .ok (.iconst (-1), 1) := by decide +kernel
theorem dX0_provides_17 : decode cX0_provides 17 = .ok (.if_icmp .eq 15, 3) := by decide +kernel
theorem dX0_provides_20 : decode cX0_provides 20 = .ok (.aload_n 0, 1) := by decide +kernel
theorem dX0_provides_21 : decode cX0_provides 21 = .ok (.getfield 11, 3) := by decide +kernel
theorem dX0_provides_24 : decode cX0_provides 24 = .ok (.iload_n 1, 1) := by decide +kernel
theorem dX0_provides_25 : decode cX0_provides 25 = .ok (.aaload, 1) := by decide +kernel
theorem dX0_provides_26 : decode cX0_provides 26 = .ok (.iconst 2, 1) := by decide +kernel
theorem dX0_provides_27 : decode cX0_provides 27 = .ok (.iaload, 1) := by decide +kernel
theorem dX0_provides_28 : decode cX0_provides 28 = .ok (.iload_n 3, 1) := by decide +kernel
theorem dX0_provides_29 : decode cX0_provides 29 = .ok (.if_icmp .ne 7, 3) := by decide +kernel
theorem dX0_provides_32 : decode cX0_provides 32 = .ok (.iconst 1, 1) := by decide +kernel
theorem dX0_provides_33 : decode cX0_provides 33 = .ok (.goto 4, 3) := by decide +kernel
theorem dX0_provides_36 : decode cX0_provides 36 = .ok (.iconst 0, 1) := by decide +kernel
theorem dX0_provides_37 : decode cX0_provides 37 = .ok (.ireturn, 1) := by decide +kernel
theorem dX0_candidateMask_0 : decode cX0_candidateMask 0 = .ok (.iconst 0, 1) := by decide +kernel
theorem dX0_candidateMask_1 : decode cX0_candidateMask 1 = .ok (.istore_n 3, 1) := by decide +kernel
theorem dX0_candidateMask_2 : decode cX0_candidateMask 2 = .ok (.iconst 0, 1) := by decide +kernel
theorem dX0_candidateMask_3 : decode cX0_candidateMask 3 = .ok (.istore 4, 2) := by decide +kernel
theorem dX0_candidateMask_5 : decode cX0_candidateMask 5 = .ok (.iload 4, 2) := by decide +kernel
theorem dX0_candidateMask_7 : decode cX0_candidateMask 7 = .ok (.aload_n 0, 1) := by decide +kernel
theorem dX0_candidateMask_8 : decode cX0_candidateMask 8 = .ok (.getfield 23, 3) := by decide +kernel
theorem dX0_candidateMask_11 : decode cX0_candidateMask 11 = .ok (.if_icmp .ge 36, 3) := by decide +kernel
theorem dX0_candidateMask_14 : decode cX0_candidateMask 14 = .ok (.aload_n 0, 1) := by decide +kernel
theorem dX0_candidateMask_15 : decode cX0_candidateMask 15 = .ok (.iload 4, 2) := by decide +kernel
theorem dX0_candidateMask_17 : decode cX0_candidateMask 17 = .ok (.invokevirtual 30, 3) := by decide +kernel
theorem dX0_candidateMask_20 : decode cX0_candidateMask 20 = .ok (.ifCond .eq 21, 3) := by decide +kernel
theorem dX0_candidateMask_23 : decode cX0_candidateMask 23 = .ok (.aload_n 0, 1) := by decide +kernel
theorem dX0_candidateMask_24 : decode cX0_candidateMask 24 = .ok (.iload 4, 2) := by decide +kernel
theorem dX0_candidateMask_26 : decode cX0_candidateMask 26 = .ok (.iload_n 1, 1) := by decide +kernel
theorem dX0_candidateMask_27 : decode cX0_candidateMask 27 = .ok (.iload_n 2, 1) := by decide +kernel
theorem dX0_candidateMask_28 : decode cX0_candidateMask 28 = .ok (.invokevirtual 34, 3) := by decide +kernel
theorem dX0_candidateMask_31 : decode cX0_candidateMask 31 = .ok (.ifCond .eq 10, 3) := by decide +kernel
theorem dX0_candidateMask_34 : decode cX0_candidateMask 34 = .ok (.iload_n 3, 1) := by decide +kernel
theorem dX0_candidateMask_35 : decode cX0_candidateMask 35 = .ok (.iconst 1, 1) := by decide +kernel
theorem dX0_candidateMask_36 : decode cX0_candidateMask 36 = .ok (.iload 4, 2) := by decide +kernel
theorem dX0_candidateMask_38 : decode cX0_candidateMask 38 = .ok (.ishl, 1) := by decide +kernel
theorem dX0_candidateMask_39 : decode cX0_candidateMask 39 = .ok (.ior, 1) := by decide +kernel
theorem dX0_candidateMask_40 : decode cX0_candidateMask 40 = .ok (.istore_n 3, 1) := by decide +kernel
theorem dX0_candidateMask_41 : decode cX0_candidateMask 41 = .ok (.iinc 4 1, 3) := by decide +kernel
theorem dX0_candidateMask_44 : decode cX0_candidateMask 44 = .ok (.goto (-39), 3) := by decide +kernel
theorem dX0_candidateMask_47 : decode cX0_candidateMask 47 = .ok (.iload_n 3, 1) := by decide +kernel
theorem dX0_candidateMask_48 : decode cX0_candidateMask 48 = .ok (.ireturn, 1) := by decide +kernel
theorem dX0_candidatesFor_0 : decode cX0_candidatesFor 0 = .ok (.aload_n 0, 1) := by decide +kernel
theorem dX0_candidatesFor_1 : decode cX0_candidatesFor 1 = .ok (.aload_n 0, 1) := by decide +kernel
theorem dX0_candidatesFor_2 : decode cX0_candidatesFor 2 = .ok (.iload_n 1, 1) := by decide +kernel
theorem dX0_candidatesFor_3 : decode cX0_candidatesFor 3 = .ok (.iload_n 2, 1) := by decide +kernel
theorem dX0_candidatesFor_4 : decode cX0_candidatesFor 4 = .ok (.iconst 0, 1) := by decide +kernel
theorem dX0_candidatesFor_5 : decode cX0_candidatesFor 5 = .ok (.invokevirtual 38, 3) := by decide +kernel
theorem dX0_candidatesFor_8 : decode cX0_candidatesFor 8 = .ok (.aload_n 0, 1) := by decide +kernel
theorem dX0_candidatesFor_9 : decode cX0_candidatesFor 9 = .ok (.iload_n 1, 1) := by decide +kernel
theorem dX0_candidatesFor_10 : decode cX0_candidatesFor 10 = .ok (.iload_n 2, 1) := by decide +kernel
theorem dX0_candidatesFor_11 : decode cX0_candidatesFor 11 = .ok (.iconst 1, 1) := by decide +kernel
theorem dX0_candidatesFor_12 : decode cX0_candidatesFor 12 = .ok (.invokevirtual 38, 3) := by decide +kernel
theorem dX0_candidatesFor_15 : decode cX0_candidatesFor 15 = .ok (.invokevirtual 42, 3) := by decide +kernel
theorem dX0_candidatesFor_18 : decode cX0_candidatesFor 18 = .ok (.ireturn, 1) := by decide +kernel
theorem dX0_choiceAmong_0 : decode cX0_choiceAmong 0 = .ok (.aload_n 0, 1) := by decide +kernel
theorem dX0_choiceAmong_1 : decode cX0_choiceAmong 1 = .ok (.iload_n 1, 1) := by decide +kernel
theorem dX0_choiceAmong_2 : decode cX0_choiceAmong 2 = .ok (.invokevirtual 46, 3) := by decide +kernel
theorem dX0_choiceAmong_5 : decode cX0_choiceAmong 5 = .ok (.istore_n 2, 1) := by decide +kernel
theorem dX0_choiceAmong_6 : decode cX0_choiceAmong 6 = .ok (.iload_n 2, 1) := by decide +kernel
theorem dX0_choiceAmong_7 : decode cX0_choiceAmong 7 = .ok (.iconst (-1), 1) := by decide +kernel
theorem dX0_choiceAmong_8 : decode cX0_choiceAmong 8 = .ok (.if_icmp .eq 7, 3) := by decide +kernel
theorem dX0_choiceAmong_11 : decode cX0_choiceAmong 11 = .ok (.iload_n 2, 1) := by decide +kernel
theorem dX0_choiceAmong_12 : decode cX0_choiceAmong 12 = .ok (.goto 13, 3) := by decide +kernel
theorem dX0_choiceAmong_15 : decode cX0_choiceAmong 15 = .ok (.aload_n 0, 1) := by decide +kernel
theorem dX0_choiceAmong_16 : decode cX0_choiceAmong 16 = .ok (.iload_n 1, 1) := by decide +kernel
theorem dX0_choiceAmong_17 : decode cX0_choiceAmong 17 = .ok (.aload_n 0, 1) := by decide +kernel
theorem dX0_choiceAmong_18 : decode cX0_choiceAmong 18 = .ok (.invokevirtual 50, 3) := by decide +kernel
theorem dX0_choiceAmong_21 : decode cX0_choiceAmong 21 = .ok (.iand, 1) := by decide +kernel
theorem dX0_choiceAmong_22 : decode cX0_choiceAmong 22 = .ok (.invokevirtual 46, 3) := by decide +kernel
theorem dX0_choiceAmong_25 : decode cX0_choiceAmong 25 = .ok (.ireturn, 1) := by decide +kernel
theorem dX0_singleIn_0 : decode cX0_singleIn 0 = .ok (.iconst 0, 1) := by decide +kernel
theorem dX0_singleIn_1 : decode cX0_singleIn 1 = .ok (.istore_n 2, 1) := by decide +kernel
theorem dX0_singleIn_2 : decode cX0_singleIn 2 = .ok (.iload_n 2, 1) := by decide +kernel
theorem dX0_singleIn_3 : decode cX0_singleIn 3 = .ok (.aload_n 0, 1) := by decide +kernel
theorem dX0_singleIn_4 : decode cX0_singleIn 4 = .ok (.getfield 23, 3) := by decide +kernel
theorem dX0_singleIn_7 : decode cX0_singleIn 7 = .ok (.if_icmp .ge 18, 3) := by decide +kernel
theorem dX0_singleIn_10 : decode cX0_singleIn 10 = .ok (.iload_n 1, 1) := by decide +kernel
theorem dX0_singleIn_11 : decode cX0_singleIn 11 = .ok (.iconst 1, 1) := by decide +kernel
theorem dX0_singleIn_12 : decode cX0_singleIn 12 = .ok (.iload_n 2, 1) := by decide +kernel
theorem dX0_singleIn_13 : decode cX0_singleIn 13 = .ok (.ishl, 1) := by decide +kernel
theorem dX0_singleIn_14 : decode cX0_singleIn 14 = .ok (.if_icmp .ne 5, 3) := by decide +kernel
theorem dX0_singleIn_17 : decode cX0_singleIn 17 = .ok (.iload_n 2, 1) := by decide +kernel
theorem dX0_singleIn_18 : decode cX0_singleIn 18 = .ok (.ireturn, 1) := by decide +kernel
theorem dX0_singleIn_19 : decode cX0_singleIn 19 = .ok (.iinc 2 1, 3) := by decide +kernel
theorem dX0_singleIn_22 : decode cX0_singleIn 22 = .ok (.goto (-20), 3) := by decide +kernel
theorem dX0_singleIn_25 : decode cX0_singleIn 25 = .ok (.iconst (-1), 1) := by decide +kernel
theorem dX0_singleIn_26 : decode cX0_singleIn 26 = .ok (.ireturn, 1) := by decide +kernel
theorem dX0_primaryMask_0 : decode cX0_primaryMask 0 = .ok (.iconst 0, 1) := by decide +kernel
theorem dX0_primaryMask_1 : decode cX0_primaryMask 1 = .ok (.istore_n 1, 1) := by decide +kernel
theorem dX0_primaryMask_2 : decode cX0_primaryMask 2 = .ok (.iconst 0, 1) := by decide +kernel
theorem dX0_primaryMask_3 : decode cX0_primaryMask 3 = .ok (.istore_n 2, 1) := by decide +kernel
theorem dX0_primaryMask_4 : decode cX0_primaryMask 4 = .ok (.iload_n 2, 1) := by decide +kernel
theorem dX0_primaryMask_5 : decode cX0_primaryMask 5 = .ok (.aload_n 0, 1) := by decide +kernel
theorem dX0_primaryMask_6 : decode cX0_primaryMask 6 = .ok (.getfield 23, 3) := by decide +kernel
theorem dX0_primaryMask_9 : decode cX0_primaryMask 9 = .ok (.if_icmp .ge 22, 3) := by decide +kernel
theorem dX0_primaryMask_12 : decode cX0_primaryMask 12 = .ok (.iload_n 1, 1) := by decide +kernel
theorem dX0_primaryMask_13 : decode cX0_primaryMask 13 = .ok (.aload_n 0, 1) := by decide +kernel
theorem dX0_primaryMask_14 : decode cX0_primaryMask 14 = .ok (.getfield 11, 3) := by decide +kernel
theorem dX0_primaryMask_17 : decode cX0_primaryMask 17 = .ok (.iload_n 2, 1) := by decide +kernel
theorem dX0_primaryMask_18 : decode cX0_primaryMask 18 = .ok (.aaload, 1) := by decide +kernel
theorem dX0_primaryMask_19 : decode cX0_primaryMask 19 = .ok (.iconst 3, 1) := by decide +kernel
theorem dX0_primaryMask_20 : decode cX0_primaryMask 20 = .ok (.iaload, 1) := by decide +kernel
theorem dX0_primaryMask_21 : decode cX0_primaryMask 21 = .ok (.iload_n 2, 1) := by decide +kernel
theorem dX0_primaryMask_22 : decode cX0_primaryMask 22 = .ok (.ishl, 1) := by decide +kernel
theorem dX0_primaryMask_23 : decode cX0_primaryMask 23 = .ok (.ior, 1) := by decide +kernel
theorem dX0_primaryMask_24 : decode cX0_primaryMask 24 = .ok (.istore_n 1, 1) := by decide +kernel
theorem dX0_primaryMask_25 : decode cX0_primaryMask 25 = .ok (.iinc 2 1, 3) := by decide +kernel
theorem dX0_primaryMask_28 : decode cX0_primaryMask 28 = .ok (.goto (-24), 3) := by decide +kernel
theorem dX0_primaryMask_31 : decode cX0_primaryMask 31 = .ok (.iload_n 1, 1) := by decide +kernel
theorem dX0_primaryMask_32 : decode cX0_primaryMask 32 = .ok (.ireturn, 1) := by decide +kernel
theorem dX0_directNeeds_0 : decode cX0_directNeeds 0 = .ok (.iconst 0, 1) := by decide +kernel
theorem dX0_directNeeds_1 : decode cX0_directNeeds 1 = .ok (.istore_n 2, 1) := by decide +kernel
theorem dX0_directNeeds_2 : decode cX0_directNeeds 2 = .ok (.iconst 0, 1) := by decide +kernel
theorem dX0_directNeeds_3 : decode cX0_directNeeds 3 = .ok (.istore_n 3, 1) := by decide +kernel
theorem dX0_directNeeds_4 : decode cX0_directNeeds 4 = .ok (.iload_n 3, 1) := by decide +kernel
theorem dX0_directNeeds_5 : decode cX0_directNeeds 5 = .ok (.aload_n 0, 1) := by decide +kernel
theorem dX0_directNeeds_6 : decode cX0_directNeeds 6 = .ok (.getfield 19, 3) := by decide +kernel
theorem dX0_directNeeds_9 : decode cX0_directNeeds 9 = .ok (.iload_n 1, 1) := by decide +kernel
theorem dX0_directNeeds_10 : decode cX0_directNeeds 10 = .ok (.iaload, 1) := by decide +kernel
theorem dX0_directNeeds_11 : decode cX0_directNeeds 11 = .ok (.if_icmp .ge 18, 3) := by decide +kernel
theorem dX0_directNeeds_14 : decode cX0_directNeeds 14 = .ok (.iload_n 2, 1) := by decide +kernel
theorem dX0_directNeeds_15 : decode cX0_directNeeds 15 = .ok (.aload_n 0, 1) := by decide +kernel
theorem dX0_directNeeds_16 : decode cX0_directNeeds 16 = .ok (.iload_n 1, 1) := by decide +kernel
theorem dX0_directNeeds_17 : decode cX0_directNeeds 17 = .ok (.iload_n 3, 1) := by decide +kernel
theorem dX0_directNeeds_18 : decode cX0_directNeeds 18 = .ok (.invokevirtual 54, 3) := by decide +kernel
theorem dX0_directNeeds_21 : decode cX0_directNeeds 21 = .ok (.ior, 1) := by decide +kernel
theorem dX0_directNeeds_22 : decode cX0_directNeeds 22 = .ok (.istore_n 2, 1) := by decide +kernel
theorem dX0_directNeeds_23 : decode cX0_directNeeds 23 = .ok (.iinc 3 1, 3) := by decide +kernel
theorem dX0_directNeeds_26 : decode cX0_directNeeds 26 = .ok (.goto (-22), 3) := by decide +kernel
theorem dX0_directNeeds_29 : decode cX0_directNeeds 29 = .ok (.iload_n 2, 1) := by decide +kernel
theorem dX0_directNeeds_30 : decode cX0_directNeeds 30 = .ok (.ireturn, 1) := by decide +kernel
theorem dX0_needsOfDependency_0 : decode cX0_needsOfDependency 0 = .ok (.aload_n 0, 1) := by decide +kernel
theorem dX0_needsOfDependency_1 : decode cX0_needsOfDependency 1 = .ok (.iload_n 1, 1) := by decide +kernel
theorem dX0_needsOfDependency_2 : decode cX0_needsOfDependency 2 = .ok (.iload_n 2, 1) := by decide +kernel
theorem dX0_needsOfDependency_3 : decode cX0_needsOfDependency 3 = .ok (.iconst 2, 1) := by decide +kernel
theorem dX0_needsOfDependency_4 : decode cX0_needsOfDependency 4 = .ok (.invokevirtual 38, 3) := by decide +kernel
theorem dX0_needsOfDependency_7 : decode cX0_needsOfDependency 7 = .ok (.istore_n 3, 1) := by decide +kernel
theorem dX0_needsOfDependency_8 : decode cX0_needsOfDependency 8 = .ok (.iload_n 3, 1) := by decide +kernel
theorem dX0_needsOfDependency_9 : decode cX0_needsOfDependency 9 = .ok (.iconst 3, 1) := by decide +kernel
theorem dX0_needsOfDependency_10 : decode cX0_needsOfDependency 10 = .ok (.if_icmp .ne 5, 3) := by decide +kernel
theorem dX0_needsOfDependency_13 : decode cX0_needsOfDependency 13 = .ok (.iconst 0, 1) := by decide +kernel
theorem dX0_needsOfDependency_14 : decode cX0_needsOfDependency 14 = .ok (.ireturn, 1) := by decide +kernel
theorem dX0_needsOfDependency_15 : decode cX0_needsOfDependency 15 = .ok (.aload_n 0, 1) := by decide +kernel
theorem dX0_needsOfDependency_16 : decode cX0_needsOfDependency 16 = .ok (.iload_n 1, 1) := by decide +kernel
theorem dX0_needsOfDependency_17 : decode cX0_needsOfDependency 17 = .ok (.iload_n 2, 1) := by decide +kernel
theorem dX0_needsOfDependency_18 : decode cX0_needsOfDependency 18 = .ok (.invokevirtual 57, 3) := by decide +kernel
theorem dX0_needsOfDependency_21 : decode cX0_needsOfDependency 21 = .ok (.istore 4, 2) := by decide +kernel
theorem dX0_needsOfDependency_23 : decode cX0_needsOfDependency 23 = .ok (.iload_n 3, 1) := by decide +kernel
theorem dX0_needsOfDependency_24 : decode cX0_needsOfDependency 24 = .ok (.iconst 2, 1) := by decide +kernel
theorem dX0_needsOfDependency_25 : decode cX0_needsOfDependency 25 = .ok (.if_icmp .ne 6, 3) := by decide +kernel
theorem dX0_needsOfDependency_28 : decode cX0_needsOfDependency 28 = .ok (.iload 4, 2) := by decide +kernel
theorem dX0_needsOfDependency_30 : decode cX0_needsOfDependency 30 = .ok (.ireturn, 1) := by decide +kernel
theorem dX0_needsOfDependency_31 : decode cX0_needsOfDependency 31 = .ok (.aload_n 0, 1) := by decide +kernel
theorem dX0_needsOfDependency_32 : decode cX0_needsOfDependency 32 = .ok (.iload 4, 2) := by decide +kernel
theorem dX0_needsOfDependency_34 : decode cX0_needsOfDependency 34 = .ok (.invokevirtual 60, 3) := by decide +kernel
theorem dX0_needsOfDependency_37 : decode cX0_needsOfDependency 37 = .ok (.istore 5, 2) := by decide +kernel
theorem dX0_needsOfDependency_39 : decode cX0_needsOfDependency 39 = .ok (.iload 5, 2) := by decide +kernel
theorem dX0_needsOfDependency_41 : decode cX0_needsOfDependency 41 = .ok (.iconst (-1), 1) := by decide +kernel
theorem dX0_needsOfDependency_42 : decode cX0_needsOfDependency 42 = .ok (.if_icmp .ne 7, 3) := by decide +kernel
theorem dX0_needsOfDependency_45 : decode cX0_needsOfDependency 45 = .ok (.iconst 0, 1) := by decide +kernel
theorem dX0_needsOfDependency_46 : decode cX0_needsOfDependency 46 = .ok (.goto 7, 3) := by decide +kernel
theorem dX0_needsOfDependency_49 : decode cX0_needsOfDependency 49 = .ok (.iconst 1, 1) := by decide +kernel
theorem dX0_needsOfDependency_50 : decode cX0_needsOfDependency 50 = .ok (.iload 5, 2) := by decide +kernel
theorem dX0_needsOfDependency_52 : decode cX0_needsOfDependency 52 = .ok (.ishl, 1) := by decide +kernel
theorem dX0_needsOfDependency_53 : decode cX0_needsOfDependency 53 = .ok (.ireturn, 1) := by decide +kernel
theorem dX0_allNeeds_0 : decode cX0_allNeeds 0 = .ok (.aload_n 0, 1) := by decide +kernel
theorem dX0_allNeeds_1 : decode cX0_allNeeds 1 = .ok (.iload_n 1, 1) := by decide +kernel
theorem dX0_allNeeds_2 : decode cX0_allNeeds 2 = .ok (.invokevirtual 63, 3) := by decide +kernel
theorem dX0_allNeeds_5 : decode cX0_allNeeds 5 = .ok (.istore_n 2, 1) := by decide +kernel
theorem dX0_allNeeds_6 : decode cX0_allNeeds 6 = .ok (.iconst 0, 1) := by decide +kernel
theorem dX0_allNeeds_7 : decode cX0_allNeeds 7 = .ok (.istore_n 3, 1) := by decide +kernel
theorem dX0_allNeeds_8 : decode cX0_allNeeds 8 = .ok (.iload_n 3, 1) := by decide +kernel
theorem dX0_allNeeds_9 : decode cX0_allNeeds 9 = .ok (.aload_n 0, 1) := by decide +kernel
theorem dX0_allNeeds_10 : decode cX0_allNeeds 10 = .ok (.getfield 23, 3) := by decide +kernel
theorem dX0_allNeeds_13 : decode cX0_allNeeds 13 = .ok (.if_icmp .ge 57, 3) := by decide +kernel
theorem dX0_allNeeds_16 : decode cX0_allNeeds 16 = .ok (.iload_n 2, 1) := by decide +kernel
theorem dX0_allNeeds_17 : decode cX0_allNeeds 17 = .ok (.istore 4, 2) := by decide +kernel
theorem dX0_allNeeds_19 : decode cX0_allNeeds 19 = .ok (.iconst 0, 1) := by decide +kernel
theorem dX0_allNeeds_20 : decode cX0_allNeeds 20 = .ok (.istore 5, 2) := by decide +kernel
theorem dX0_allNeeds_22 : decode cX0_allNeeds 22 = .ok (.iload 5, 2) := by decide +kernel
theorem dX0_allNeeds_24 : decode cX0_allNeeds 24 = .ok (.aload_n 0, 1) := by decide +kernel
theorem dX0_allNeeds_25 : decode cX0_allNeeds 25 = .ok (.getfield 23, 3) := by decide +kernel
theorem dX0_allNeeds_28 : decode cX0_allNeeds 28 = .ok (.if_icmp .ge 28, 3) := by decide +kernel
theorem dX0_allNeeds_31 : decode cX0_allNeeds 31 = .ok (.iload 4, 2) := by decide +kernel
theorem dX0_allNeeds_33 : decode cX0_allNeeds 33 = .ok (.iload 5, 2) := by decide +kernel
theorem dX0_allNeeds_35 : decode cX0_allNeeds 35 = .ok (.invokestatic 66, 3) := by decide +kernel
theorem dX0_allNeeds_38 : decode cX0_allNeeds 38 = .ok (.ifCond .eq 12, 3) := by decide +kernel
theorem dX0_allNeeds_41 : decode cX0_allNeeds 41 = .ok (.iload_n 2, 1) := by decide +kernel
theorem dX0_allNeeds_42 : decode cX0_allNeeds 42 = .ok (.aload_n 0, 1) := by decide +kernel
theorem dX0_allNeeds_43 : decode cX0_allNeeds 43 = .ok (.iload 5, 2) := by decide +kernel
theorem dX0_allNeeds_45 : decode cX0_allNeeds 45 = .ok (.invokevirtual 63, 3) := by decide +kernel
theorem dX0_allNeeds_48 : decode cX0_allNeeds 48 = .ok (.ior, 1) := by decide +kernel
theorem dX0_allNeeds_49 : decode cX0_allNeeds 49 = .ok (.istore_n 2, 1) := by decide +kernel
theorem dX0_allNeeds_50 : decode cX0_allNeeds 50 = .ok (.iinc 5 1, 3) := by decide +kernel
theorem dX0_allNeeds_53 : decode cX0_allNeeds 53 = .ok (.goto (-31), 3) := by decide +kernel
theorem dX0_allNeeds_56 : decode cX0_allNeeds 56 = .ok (.iload_n 2, 1) := by decide +kernel
theorem dX0_allNeeds_57 : decode cX0_allNeeds 57 = .ok (.iload 4, 2) := by decide +kernel
theorem dX0_allNeeds_59 : decode cX0_allNeeds 59 = .ok (.if_icmp .ne 5, 3) := by decide +kernel
theorem dX0_allNeeds_62 : decode cX0_allNeeds 62 = .ok (.iload_n 2, 1) := by decide +kernel
theorem dX0_allNeeds_63 : decode cX0_allNeeds 63 = .ok (.ireturn, 1) := by decide +kernel
theorem dX0_allNeeds_64 : decode cX0_allNeeds 64 = .ok (.iinc 3 1, 3) := by decide +kernel
theorem dX0_allNeeds_67 : decode cX0_allNeeds 67 = .ok (.goto (-59), 3) := by decide +kernel
theorem dX0_allNeeds_70 : decode cX0_allNeeds 70 = .ok (.iload_n 2, 1) := by decide +kernel
theorem dX0_allNeeds_71 : decode cX0_allNeeds 71 = .ok (.ireturn, 1) := by decide +kernel
theorem dX1_init_0 : decode cX1_init 0 = .ok (.aload_n 0, 1) := by decide +kernel
theorem dX1_init_1 : decode cX1_init 1 = .ok (.invokespecial 3, 3) := by decide +kernel
theorem dX1_init_4 : decode cX1_init 4 = .ok (.aload_n 0, 1) := by decide +kernel
theorem dX1_init_5 : decode cX1_init 5 = .ok (.iconst 0, 1) := by decide +kernel
theorem dX1_init_6 : decode cX1_init 6 = .ok (.putfield 9, 3) := by decide +kernel
theorem dX1_init_9 : decode cX1_init 9 = .ok (.aload_n 0, 1) := by decide +kernel
theorem dX1_init_10 : decode cX1_init 10 = .ok (.iconst (-1), 1) := by decide +kernel
theorem dX1_init_11 : decode cX1_init 11 = .ok (.putfield 15, 3) := by decide +kernel
theorem dX1_init_14 : decode cX1_init 14 = .ok (.aload_n 0, 1) := by decide +kernel
theorem dX1_init_15 : decode cX1_init 15 = .ok (.bipush 20, 2) := by decide +kernel
theorem dX1_init_17 : decode cX1_init 17 = .ok (.newarray .int, 2) := by decide +kernel
theorem dX1_init_19 : decode cX1_init 19 = .ok (.putfield 18, 3) := by decide +kernel
theorem dX1_init_22 : decode cX1_init 22 = .ok (.aload_n 0, 1) := by decide +kernel
theorem dX1_init_23 : decode cX1_init 23 = .ok (.iconst 0, 1) := by decide +kernel
theorem dX1_init_24 : decode cX1_init 24 = .ok (.putfield 22, 3) := by decide +kernel
theorem dX1_init_27 : decode cX1_init 27 = .ok (.return_, 1) := by decide +kernel
theorem dX1_remember_0 : decode cX1_remember 0 = .ok (.aload_n 0, 1) := by decide +kernel
theorem dX1_remember_1 : decode cX1_remember 1 = .ok (.iload_n 1, 1) := by decide +kernel
theorem dX1_remember_2 : decode cX1_remember 2 = .ok (.putfield 9, 3) := by decide +kernel
theorem dX1_remember_5 : decode cX1_remember 5 = .ok (.aload_n 0, 1) := by decide +kernel
theorem dX1_remember_6 : decode cX1_remember 6 = .ok (.iload_n 2, 1) := by decide +kernel
theorem dX1_remember_7 : decode cX1_remember 7 = .ok (.putfield 15, 3) := by decide +kernel
theorem dX1_remember_10 : decode cX1_remember 10 = .ok (.aload_n 3, 1) := by decide +kernel
theorem dX1_remember_11 : decode cX1_remember 11 = .ok (.iconst 0, 1) := by decide +kernel
theorem dX1_remember_12 : decode cX1_remember 12 = .ok (.aload_n 0, 1) := by decide +kernel
theorem dX1_remember_13 : decode cX1_remember 13 = .ok (.getfield 18, 3) := by decide +kernel
theorem dX1_remember_16 : decode cX1_remember 16 = .ok (.iconst 0, 1) := by decide +kernel
theorem dX1_remember_17 : decode cX1_remember 17 = .ok (.iload 4, 2) := by decide +kernel
theorem dX1_remember_19 : decode cX1_remember 19 = .ok (.invokestatic 25, 3) := by decide +kernel
theorem dX1_remember_22 : decode cX1_remember 22 = .ok (.aload_n 0, 1) := by decide +kernel
theorem dX1_remember_23 : decode cX1_remember 23 = .ok (.iload 4, 2) := by decide +kernel
theorem dX1_remember_25 : decode cX1_remember 25 = .ok (.putfield 22, 3) := by decide +kernel
theorem dX1_remember_28 : decode cX1_remember 28 = .ok (.return_, 1) := by decide +kernel
theorem dX2_init_0 : decode cX2_init 0 = .ok (.aload_n 0, 1) := by decide +kernel
theorem dX2_init_1 : decode cX2_init 1 = .ok (.invokespecial 3, 3) := by decide +kernel
theorem dX2_init_4 : decode cX2_init 4 = .ok (.aload_n 0, 1) := by decide +kernel
theorem dX2_init_5 : decode cX2_init 5 = .ok (.sipush 300, 3) := by decide +kernel
theorem dX2_init_8 : decode cX2_init 8 = .ok (.newarray .int, 2) := by decide +kernel
theorem dX2_init_10 : decode cX2_init 10 = .ok (.putfield 9, 3) := by decide +kernel
theorem dX2_init_13 : decode cX2_init 13 = .ok (.aload_n 0, 1) := by decide +kernel
theorem dX2_init_14 : decode cX2_init 14 = .ok (.sipush 300, 3) := by decide +kernel
theorem dX2_init_17 : decode cX2_init 17 = .ok (.newarray .int, 2) := by decide +kernel
theorem dX2_init_19 : decode cX2_init 19 = .ok (.putfield 15, 3) := by decide +kernel
theorem dX2_init_22 : decode cX2_init 22 = .ok (.aload_n 0, 1) := by decide +kernel
theorem dX2_init_23 : decode cX2_init 23 = .ok (.sipush 300, 3) := by decide +kernel
theorem dX2_init_26 : decode cX2_init 26 = .ok (.newarray .boolean, 2) := by decide +kernel
theorem dX2_init_28 : decode cX2_init 28 = .ok (.putfield 18, 3) := by decide +kernel
theorem dX2_init_31 : decode cX2_init 31 = .ok (.aload_n 0, 1) := by decide +kernel
theorem dX2_init_32 : decode cX2_init 32 = .ok (.sipush 1800, 3) := by decide +kernel
theorem dX2_init_35 : decode cX2_init 35 = .ok (.newarray .int, 2) := by decide +kernel
theorem dX2_init_37 : decode cX2_init 37 = .ok (.putfield 22, 3) := by decide +kernel
theorem dX2_init_40 : decode cX2_init 40 = .ok (.aload_n 0, 1) := by decide +kernel
theorem dX2_init_41 : decode cX2_init 41 = .ok (.sipush 300, 3) := by decide +kernel
theorem dX2_init_44 : decode cX2_init 44 = .ok (.newarray .int, 2) := by decide +kernel
theorem dX2_init_46 : decode cX2_init 46 = .ok (.putfield 25, 3) := by decide +kernel
theorem dX2_init_49 : decode cX2_init 49 = .ok (.aload_n 0, 1) := by decide +kernel
theorem dX2_init_50 : decode cX2_init 50 = .ok (.iconst 0, 1) := by decide +kernel
theorem dX2_init_51 : decode cX2_init 51 = .ok (.putfield 28, 3) := by decide +kernel
theorem dX2_init_54 : decode cX2_init 54 = .ok (.aload_n 0, 1) := by decide +kernel
theorem dX2_init_55 : decode cX2_init 55 = .ok (.bipush 6, 2) := by decide +kernel
theorem dX2_init_57 : decode cX2_init 57 = .ok (.bipush 20, 2) := by decide +kernel
theorem dX2_init_59 : decode cX2_init 59 = .ok (.multianewarray 32 2, 4) := by decide +kernel
theorem dX2_init_63 : decode cX2_init 63 = .ok (.putfield 34, 3) := by decide +kernel
theorem dX2_init_66 : decode cX2_init 66 = .ok (.aload_n 0, 1) := by decide +kernel
theorem dX2_init_67 : decode cX2_init 67 = .ok (.bipush 20, 2) := by decide +kernel
theorem dX2_init_69 : decode cX2_init 69 = .ok (.newarray .int, 2) := by decide +kernel
theorem dX2_init_71 : decode cX2_init 71 = .ok (.putfield 37, 3) := by decide +kernel
theorem dX2_init_74 : decode cX2_init 74 = .ok (.aload_n 0, 1) := by decide +kernel
theorem dX2_init_75 : decode cX2_init 75 = .ok (.sipush 600, 3) := by decide +kernel
theorem dX2_init_78 : decode cX2_init 78 = .ok (.newarray .int, 2) := by decide +kernel
theorem dX2_init_80 : decode cX2_init 80 = .ok (.putfield 40, 3) := by decide +kernel
theorem dX2_init_83 : decode cX2_init 83 = .ok (.aload_n 0, 1) := by decide +kernel
theorem dX2_init_84 : decode cX2_init 84 = .ok (.iconst 0, 1) := by decide +kernel
theorem dX2_init_85 : decode cX2_init 85 = .ok (.putfield 43, 3) := by decide +kernel
theorem dX2_init_88 : decode cX2_init 88 = .ok (.aload_n 0, 1) := by decide +kernel
theorem dX2_init_89 : decode cX2_init 89 = .ok (.getfield 34, 3) := by decide +kernel
theorem dX2_init_92 : decode cX2_init 92 = .ok (.astore_n 1, 1) := by decide +kernel
theorem dX2_init_93 : decode cX2_init 93 = .ok (.aload_n 1, 1) := by decide +kernel
theorem dX2_init_94 : decode cX2_init 94 = .ok (.arraylength, 1) := by decide +kernel
theorem dX2_init_95 : decode cX2_init 95 = .ok (.istore_n 2, 1) := by decide +kernel
theorem dX2_init_96 : decode cX2_init 96 = .ok (.iconst 0, 1) := by decide +kernel
theorem dX2_init_97 : decode cX2_init 97 = .ok (.istore_n 3, 1) := by decide +kernel
theorem dX2_init_98 : decode cX2_init 98 = .ok (.iload_n 3, 1) := by decide +kernel
theorem dX2_init_99 : decode cX2_init 99 = .ok (.iload_n 2, 1) := by decide +kernel
theorem dX2_init_100 : decode cX2_init 100 = .ok (.if_icmp .ge 20, 3) := by decide +kernel
theorem dX2_init_103 : decode cX2_init 103 = .ok (.aload_n 1, 1) := by decide +kernel
theorem dX2_init_104 : decode cX2_init 104 = .ok (.iload_n 3, 1) := by decide +kernel
theorem dX2_init_105 : decode cX2_init 105 = .ok (.aaload, 1) := by decide +kernel
theorem dX2_init_106 : decode cX2_init 106 = .ok (.astore 4, 2) := by decide +kernel
theorem dX2_init_108 : decode cX2_init 108 = .ok (.aload 4, 2) := by decide +kernel
theorem dX2_init_110 : decode cX2_init 110 = .ok (.iconst (-1), 1) := by decide +kernel
theorem dX2_init_111 : decode cX2_init 111 = .ok (.invokestatic 46, 3) := by decide +kernel
theorem dX2_init_114 : decode cX2_init 114 = .ok (.iinc 3 1, 3) := by decide +kernel
theorem dX2_init_117 : decode cX2_init 117 = .ok (.goto (-19), 3) := by decide +kernel
theorem dX2_init_120 : decode cX2_init 120 = .ok (.return_, 1) := by decide +kernel
theorem dX2_append_0 : decode cX2_append 0 = .ok (.aload_n 0, 1) := by decide +kernel
theorem dX2_append_1 : decode cX2_append 1 = .ok (.getfield 28, 3) := by decide +kernel
theorem dX2_append_4 : decode cX2_append 4 = .ok (.istore 5, 2) := by decide +kernel
theorem dX2_append_6 : decode cX2_append 6 = .ok (.aload_n 0, 1) := by decide +kernel
theorem dX2_append_7 : decode cX2_append 7 = .ok (.getfield 9, 3) := by decide +kernel
theorem dX2_append_10 : decode cX2_append 10 = .ok (.iload 5, 2) := by decide +kernel
theorem dX2_append_12 : decode cX2_append 12 = .ok (.iload_n 1, 1) := by decide +kernel
theorem dX2_append_13 : decode cX2_append 13 = .ok (.iastore, 1) := by decide +kernel
theorem dX2_append_14 : decode cX2_append 14 = .ok (.aload_n 0, 1) := by decide +kernel
theorem dX2_append_15 : decode cX2_append 15 = .ok (.getfield 15, 3) := by decide +kernel
theorem dX2_append_18 : decode cX2_append 18 = .ok (.iload 5, 2) := by decide +kernel
theorem dX2_append_20 : decode cX2_append 20 = .ok (.iload_n 2, 1) := by decide +kernel
theorem dX2_append_21 : decode cX2_append 21 = .ok (.iastore, 1) := by decide +kernel
theorem dX2_append_22 : decode cX2_append 22 = .ok (.aload_n 0, 1) := by decide +kernel
theorem dX2_append_23 : decode cX2_append 23 = .ok (.getfield 18, 3) := by decide +kernel
theorem dX2_append_26 : decode cX2_append 26 = .ok (.iload 5, 2) := by decide +kernel
theorem dX2_append_28 : decode cX2_append 28 = .ok (.iconst 1, 1) := by decide +kernel
theorem dX2_append_29 : decode cX2_append 29 = .ok (.bastore, 1) := by decide +kernel
theorem dX2_append_30 : decode cX2_append 30 = .ok (.aload_n 3, 1) := by decide +kernel
theorem dX2_append_31 : decode cX2_append 31 = .ok (.iconst 0, 1) := by decide +kernel
theorem dX2_append_32 : decode cX2_append 32 = .ok (.aload_n 0, 1) := by decide +kernel
theorem dX2_append_33 : decode cX2_append 33 = .ok (.getfield 22, 3) := by decide +kernel
theorem dX2_append_36 : decode cX2_append 36 = .ok (.iload 5, 2) := by decide +kernel
theorem dX2_append_38 : decode cX2_append 38 = .ok (.bipush 6, 2) := by decide +kernel
theorem dX2_append_40 : decode cX2_append 40 = .ok (.imul, 1) := by decide +kernel
theorem dX2_append_41 : decode cX2_append 41 = .ok (.iload 4, 2) := by decide +kernel
theorem dX2_append_43 : decode cX2_append 43 = .ok (.invokestatic 52, 3) := by decide +kernel
theorem dX2_append_46 : decode cX2_append 46 = .ok (.aload_n 0, 1) := by decide +kernel
theorem dX2_append_47 : decode cX2_append 47 = .ok (.getfield 25, 3) := by decide +kernel
theorem dX2_append_50 : decode cX2_append 50 = .ok (.iload 5, 2) := by decide +kernel
theorem dX2_append_52 : decode cX2_append 52 = .ok (.iload 4, 2) := by decide +kernel
theorem dX2_append_54 : decode cX2_append 54 = .ok (.iastore, 1) := by decide +kernel
theorem dX2_append_55 : decode cX2_append 55 = .ok (.iload_n 2, 1) := by decide +kernel
theorem dX2_append_56 : decode cX2_append 56 = .ok (.iconst (-1), 1) := by decide +kernel
theorem dX2_append_57 : decode cX2_append 57 = .ok (.if_icmp .eq 13, 3) := by decide +kernel
theorem dX2_append_60 : decode cX2_append 60 = .ok (.aload_n 0, 1) := by decide +kernel
theorem dX2_append_61 : decode cX2_append 61 = .ok (.getfield 34, 3) := by decide +kernel
theorem dX2_append_64 : decode cX2_append 64 = .ok (.iload_n 2, 1) := by decide +kernel
theorem dX2_append_65 : decode cX2_append 65 = .ok (.aaload, 1) := by decide +kernel
theorem dX2_append_66 : decode cX2_append 66 = .ok (.iload_n 1, 1) := by decide +kernel
theorem dX2_append_67 : decode cX2_append 67 = .ok (.iload 5, 2) := by decide +kernel
theorem dX2_append_69 : decode cX2_append 69 = .ok (.iastore, 1) := by decide +kernel
theorem dX2_append_70 : decode cX2_append 70 = .ok (.aload_n 0, 1) := by decide +kernel
theorem dX2_append_71 : decode cX2_append 71 = .ok (.getfield 37, 3) := by decide +kernel
theorem dX2_append_74 : decode cX2_append 74 = .ok (.iload_n 1, 1) := by decide +kernel
theorem dX2_append_75 : decode cX2_append 75 = .ok (.dup2, 1) := by decide +kernel
theorem dX2_append_76 : decode cX2_append 76 = .ok (.iaload, 1) := by decide +kernel
theorem dX2_append_77 : decode cX2_append 77 = .ok (.iconst 1, 1) := by decide +kernel
theorem dX2_append_78 : decode cX2_append 78 = .ok (.iadd, 1) := by decide +kernel
theorem dX2_append_79 : decode cX2_append 79 = .ok (.iastore, 1) := by decide +kernel
theorem dX2_append_80 : decode cX2_append 80 = .ok (.aload_n 0, 1) := by decide +kernel
theorem dX2_append_81 : decode cX2_append 81 = .ok (.dup, 1) := by decide +kernel
theorem dX2_append_82 : decode cX2_append 82 = .ok (.getfield 28, 3) := by decide +kernel
theorem dX2_append_85 : decode cX2_append 85 = .ok (.iconst 1, 1) := by decide +kernel
theorem dX2_append_86 : decode cX2_append 86 = .ok (.iadd, 1) := by decide +kernel
theorem dX2_append_87 : decode cX2_append 87 = .ok (.putfield 28, 3) := by decide +kernel
theorem dX2_append_90 : decode cX2_append 90 = .ok (.aload_n 0, 1) := by decide +kernel
theorem dX2_append_91 : decode cX2_append 91 = .ok (.iconst 2, 1) := by decide +kernel
theorem dX2_append_92 : decode cX2_append 92 = .ok (.iload 5, 2) := by decide +kernel
theorem dX2_append_94 : decode cX2_append 94 = .ok (.imul, 1) := by decide +kernel
theorem dX2_append_95 : decode cX2_append 95 = .ok (.invokevirtual 58, 3) := by decide +kernel
theorem dX2_append_98 : decode cX2_append 98 = .ok (.iload 5, 2) := by decide +kernel
theorem dX2_append_100 : decode cX2_append 100 = .ok (.ireturn, 1) := by decide +kernel
theorem dX2_hasInjection_0 : decode cX2_hasInjection 0 = .ok (.iload_n 2, 1) := by decide +kernel
theorem dX2_hasInjection_1 : decode cX2_hasInjection 1 = .ok (.ifCond .lt 17, 3) := by decide +kernel
theorem dX2_hasInjection_4 : decode cX2_hasInjection 4 = .ok (.iload_n 2, 1) := by decide +kernel
theorem dX2_hasInjection_5 : decode cX2_hasInjection 5 = .ok (.aload_n 0, 1) := by decide +kernel
theorem dX2_hasInjection_6 : decode cX2_hasInjection 6 = .ok (.getfield 25, 3) := by decide +kernel
theorem dX2_hasInjection_9 : decode cX2_hasInjection 9 = .ok (.iload_n 1, 1) := by decide +kernel
theorem dX2_hasInjection_10 : decode cX2_hasInjection 10 = .ok (.iaload, 1) := by decide +kernel
theorem dX2_hasInjection_11 : decode cX2_hasInjection 11 = .ok (.if_icmp .ge 7, 3) := by decide +kernel
theorem dX2_hasInjection_14 : decode cX2_hasInjection 14 = .ok (.iconst 1, 1) := by decide +kernel
theorem dX2_hasInjection_15 : decode cX2_hasInjection 15 = .ok (.goto 4, 3) := by decide +kernel
theorem dX2_hasInjection_18 : decode cX2_hasInjection 18 = .ok (.iconst 0, 1) := by decide +kernel
theorem dX2_hasInjection_19 : decode cX2_hasInjection 19 = .ok (.ireturn, 1) := by decide +kernel
theorem dX2_destroyAllIn_0 : decode cX2_destroyAllIn 0 = .ok (.aload_n 0, 1) := by decide +kernel
theorem dX2_destroyAllIn_1 : decode cX2_destroyAllIn 1 = .ok (.iconst 0, 1) := by decide +kernel
theorem dX2_destroyAllIn_2 : decode cX2_destroyAllIn 2 = .ok (.iload_n 1, 1) := by decide +kernel
theorem dX2_destroyAllIn_3 : decode cX2_destroyAllIn 3 = .ok (.invokevirtual 62, 3) := by decide +kernel
theorem dX2_destroyAllIn_6 : decode cX2_destroyAllIn 6 = .ok (.ireturn, 1) := by decide +kernel
theorem dX2_destroyPrototypesFrom_0 : decode cX2_destroyPrototypesFrom 0 = .ok (.aload_n 0, 1) := by decide +kernel
theorem dX2_destroyPrototypesFrom_1 : decode cX2_destroyPrototypesFrom 1 = .ok (.iload_n 1, 1) := by decide +kernel
theorem dX2_destroyPrototypesFrom_2 : decode cX2_destroyPrototypesFrom 2 = .ok (.iconst (-1), 1) := by decide +kernel
theorem dX2_destroyPrototypesFrom_3 : decode cX2_destroyPrototypesFrom 3 = .ok (.invokevirtual 62, 3) := by decide +kernel
theorem dX2_destroyPrototypesFrom_6 : decode cX2_destroyPrototypesFrom 6 = .ok (.pop, 1) := by decide +kernel
theorem dX2_destroyPrototypesFrom_7 : decode cX2_destroyPrototypesFrom 7 = .ok (.return_, 1) := by decide +kernel
theorem dX2_destroyFrom_0 : decode cX2_destroyFrom 0 = .ok (.iconst 0, 1) := by decide +kernel
theorem dX2_destroyFrom_1 : decode cX2_destroyFrom 1 = .ok (.istore_n 3, 1) := by decide +kernel
theorem dX2_destroyFrom_2 : decode cX2_destroyFrom 2 = .ok (.aload_n 0, 1) := by decide +kernel
theorem dX2_destroyFrom_3 : decode cX2_destroyFrom 3 = .ok (.getfield 28, 3) := by decide +kernel
theorem dX2_destroyFrom_6 : decode cX2_destroyFrom 6 = .ok (.iconst 1, 1) := by decide +kernel
theorem dX2_destroyFrom_7 : decode cX2_destroyFrom 7 = .ok (.isub, 1) := by decide +kernel
theorem dX2_destroyFrom_8 : decode cX2_destroyFrom 8 = .ok (.istore 4, 2) := by decide +kernel
theorem dX2_destroyFrom_10 : decode cX2_destroyFrom 10 = .ok (.iload 4, 2) := by decide +kernel
theorem dX2_destroyFrom_12 : decode cX2_destroyFrom 12 = .ok (.iload_n 1, 1) := by decide +kernel
theorem dX2_destroyFrom_13 : decode cX2_destroyFrom 13 = .ok (.if_icmp .lt 39, 3) := by decide +kernel
theorem dX2_destroyFrom_16 : decode cX2_destroyFrom 16 = .ok (.aload_n 0, 1) := by decide +kernel
theorem dX2_destroyFrom_17 : decode cX2_destroyFrom 17 = .ok (.getfield 18, 3) := by decide +kernel
theorem dX2_destroyFrom_20 : decode cX2_destroyFrom 20 = .ok (.iload 4, 2) := by decide +kernel
theorem dX2_destroyFrom_22 : decode cX2_destroyFrom 22 = .ok (.baload, 1) := by decide +kernel
theorem dX2_destroyFrom_23 : decode cX2_destroyFrom 23 = .ok (.ifCond .eq 23, 3) := by decide +kernel
theorem dX2_destroyFrom_26 : decode cX2_destroyFrom 26 = .ok (.aload_n 0, 1) := by decide +kernel
theorem dX2_destroyFrom_27 : decode cX2_destroyFrom 27 = .ok (.getfield 15, 3) := by decide +kernel
theorem dX2_destroyFrom_30 : decode cX2_destroyFrom 30 = .ok (.iload 4, 2) := by decide +kernel
theorem dX2_destroyFrom_32 : decode cX2_destroyFrom 32 = .ok (.iaload, 1) := by decide +kernel
theorem dX2_destroyFrom_33 : decode cX2_destroyFrom 33 = .ok (.iload_n 2, 1) := by decide +kernel
theorem dX2_destroyFrom_34 : decode cX2_destroyFrom 34 = .ok (.if_icmp .ne 12, 3) := by decide +kernel
theorem dX2_destroyFrom_37 : decode cX2_destroyFrom 37 = .ok (.aload_n 0, 1) := by decide +kernel
theorem dX2_destroyFrom_38 : decode cX2_destroyFrom 38 = .ok (.iload 4, 2) := by decide +kernel
theorem dX2_destroyFrom_40 : decode cX2_destroyFrom 40 = .ok (.invokevirtual 66, 3) := by decide +kernel
theorem dX2_destroyFrom_43 : decode cX2_destroyFrom 43 = .ok (.iinc 3 1, 3) := by decide +kernel
theorem dX2_destroyFrom_46 : decode cX2_destroyFrom 46 = .ok (.iinc 4 (-1), 3) := by decide +kernel
theorem dX2_destroyFrom_49 : decode cX2_destroyFrom 49 = .ok (.goto (-39), 3) := by decide +kernel
theorem dX2_destroyFrom_52 : decode cX2_destroyFrom 52 = .ok (.iload_n 3, 1) := by decide +kernel
theorem dX2_destroyFrom_53 : decode cX2_destroyFrom 53 = .ok (.ireturn, 1) := by decide +kernel
theorem dX2_destroy_0 : decode cX2_destroy 0 = .ok (.aload_n 0, 1) := by decide +kernel
theorem dX2_destroy_1 : decode cX2_destroy 1 = .ok (.getfield 18, 3) := by decide +kernel
theorem dX2_destroy_4 : decode cX2_destroy 4 = .ok (.iload_n 1, 1) := by decide +kernel
theorem dX2_destroy_5 : decode cX2_destroy 5 = .ok (.iconst 0, 1) := by decide +kernel
theorem dX2_destroy_6 : decode cX2_destroy 6 = .ok (.bastore, 1) := by decide +kernel
theorem dX2_destroy_7 : decode cX2_destroy 7 = .ok (.aload_n 0, 1) := by decide +kernel
theorem dX2_destroy_8 : decode cX2_destroy 8 = .ok (.getfield 15, 3) := by decide +kernel
theorem dX2_destroy_11 : decode cX2_destroy 11 = .ok (.iload_n 1, 1) := by decide +kernel
theorem dX2_destroy_12 : decode cX2_destroy 12 = .ok (.iaload, 1) := by decide +kernel
theorem dX2_destroy_13 : decode cX2_destroy 13 = .ok (.istore_n 2, 1) := by decide +kernel
theorem dX2_destroy_14 : decode cX2_destroy 14 = .ok (.iload_n 2, 1) := by decide +kernel
theorem dX2_destroy_15 : decode cX2_destroy 15 = .ok (.iconst (-1), 1) := by decide +kernel
theorem dX2_destroy_16 : decode cX2_destroy 16 = .ok (.if_icmp .eq 17, 3) := by decide +kernel
theorem dX2_destroy_19 : decode cX2_destroy 19 = .ok (.aload_n 0, 1) := by decide +kernel
theorem dX2_destroy_20 : decode cX2_destroy 20 = .ok (.getfield 34, 3) := by decide +kernel
theorem dX2_destroy_23 : decode cX2_destroy 23 = .ok (.iload_n 2, 1) := by decide +kernel
theorem dX2_destroy_24 : decode cX2_destroy 24 = .ok (.aaload, 1) := by decide +kernel
theorem dX2_destroy_25 : decode cX2_destroy 25 = .ok (.aload_n 0, 1) := by decide +kernel
theorem dX2_destroy_26 : decode cX2_destroy 26 = .ok (.getfield 9, 3) := by decide +kernel
theorem dX2_destroy_29 : decode cX2_destroy 29 = .ok (.iload_n 1, 1) := by decide +kernel
theorem dX2_destroy_30 : decode cX2_destroy 30 = .ok (.iaload, 1) := by decide +kernel
theorem dX2_destroy_31 : decode cX2_destroy 31 = .ok (.iconst (-1), 1) := by decide +kernel
theorem dX2_destroy_32 : decode cX2_destroy 32 = .ok (.iastore, 1) := by decide +kernel
theorem dX2_destroy_33 : decode cX2_destroy 33 = .ok (.aload_n 0, 1) := by decide +kernel
theorem dX2_destroy_34 : decode cX2_destroy 34 = .ok (.iconst 2, 1) := by decide +kernel
theorem dX2_destroy_35 : decode cX2_destroy 35 = .ok (.iload_n 1, 1) := by decide +kernel
theorem dX2_destroy_36 : decode cX2_destroy 36 = .ok (.imul, 1) := by decide +kernel
theorem dX2_destroy_37 : decode cX2_destroy 37 = .ok (.iconst 1, 1) := by decide +kernel
theorem dX2_destroy_38 : decode cX2_destroy 38 = .ok (.iadd, 1) := by decide +kernel
theorem dX2_destroy_39 : decode cX2_destroy 39 = .ok (.invokevirtual 58, 3) := by decide +kernel
theorem dX2_destroy_42 : decode cX2_destroy 42 = .ok (.return_, 1) := by decide +kernel
theorem dX2_recordEvent_0 : decode cX2_recordEvent 0 = .ok (.aload_n 0, 1) := by decide +kernel
theorem dX2_recordEvent_1 : decode cX2_recordEvent 1 = .ok (.getfield 43, 3) := by decide +kernel
theorem dX2_recordEvent_4 : decode cX2_recordEvent 4 = .ok (.aload_n 0, 1) := by decide +kernel
theorem dX2_recordEvent_5 : decode cX2_recordEvent 5 = .ok (.getfield 40, 3) := by decide +kernel
theorem dX2_recordEvent_8 : decode cX2_recordEvent 8 = .ok (.arraylength, 1) := by decide +kernel
theorem dX2_recordEvent_9 : decode cX2_recordEvent 9 = .ok (.if_icmp .ge 23, 3) := by decide +kernel
theorem dX2_recordEvent_12 : decode cX2_recordEvent 12 = .ok (.aload_n 0, 1) := by decide +kernel
theorem dX2_recordEvent_13 : decode cX2_recordEvent 13 = .ok (.getfield 40, 3) := by decide +kernel
theorem dX2_recordEvent_16 : decode cX2_recordEvent 16 = .ok (.aload_n 0, 1) := by decide +kernel
theorem dX2_recordEvent_17 : decode cX2_recordEvent 17 = .ok (.getfield 43, 3) := by decide +kernel
theorem dX2_recordEvent_20 : decode cX2_recordEvent 20 = .ok (.iload_n 1, 1) := by decide +kernel
theorem dX2_recordEvent_21 : decode cX2_recordEvent 21 = .ok (.iastore, 1) := by decide +kernel
theorem dX2_recordEvent_22 : decode cX2_recordEvent 22 = .ok (.aload_n 0, 1) := by decide +kernel
theorem dX2_recordEvent_23 : decode cX2_recordEvent 23 = .ok (.dup, 1) := by decide +kernel
theorem dX2_recordEvent_24 : decode cX2_recordEvent 24 = .ok (.getfield 43, 3) := by decide +kernel
theorem dX2_recordEvent_27 : decode cX2_recordEvent 27 = .ok (.iconst 1, 1) := by decide +kernel
theorem dX2_recordEvent_28 : decode cX2_recordEvent 28 = .ok (.iadd, 1) := by decide +kernel
theorem dX2_recordEvent_29 : decode cX2_recordEvent 29 = .ok (.putfield 43, 3) := by decide +kernel
theorem dX2_recordEvent_32 : decode cX2_recordEvent 32 = .ok (.return_, 1) := by decide +kernel
theorem dX3_init_0 : decode cX3_init 0 = .ok (.aload_n 0, 1) := by decide +kernel
theorem dX3_init_1 : decode cX3_init 1 = .ok (.invokespecial 1, 3) := by decide +kernel
theorem dX3_init_4 : decode cX3_init 4 = .ok (.aload_n 0, 1) := by decide +kernel
theorem dX3_init_5 : decode cX3_init 5 = .ok (.new 7, 3) := by decide +kernel
theorem dX3_init_8 : decode cX3_init 8 = .ok (.dup, 1) := by decide +kernel
theorem dX3_init_9 : decode cX3_init 9 = .ok (.invokespecial 9, 3) := by decide +kernel
theorem dX3_init_12 : decode cX3_init 12 = .ok (.putfield 10, 3) := by decide +kernel
theorem dX3_init_15 : decode cX3_init 15 = .ok (.aload_n 0, 1) := by decide +kernel
theorem dX3_init_16 : decode cX3_init 16 = .ok (.new 16, 3) := by decide +kernel
theorem dX3_init_19 : decode cX3_init 19 = .ok (.dup, 1) := by decide +kernel
theorem dX3_init_20 : decode cX3_init 20 = .ok (.invokespecial 18, 3) := by decide +kernel
theorem dX3_init_23 : decode cX3_init 23 = .ok (.putfield 19, 3) := by decide +kernel
theorem dX3_init_26 : decode cX3_init 26 = .ok (.aload_n 0, 1) := by decide +kernel
theorem dX3_init_27 : decode cX3_init 27 = .ok (.new 23, 3) := by decide +kernel
theorem dX3_init_30 : decode cX3_init 30 = .ok (.dup, 1) := by decide +kernel
theorem dX3_init_31 : decode cX3_init 31 = .ok (.invokespecial 25, 3) := by decide +kernel
theorem dX3_init_34 : decode cX3_init 34 = .ok (.putfield 26, 3) := by decide +kernel
theorem dX3_init_37 : decode cX3_init 37 = .ok (.aload_n 0, 1) := by decide +kernel
theorem dX3_init_38 : decode cX3_init 38 = .ok (.iconst 0, 1) := by decide +kernel
theorem dX3_init_39 : decode cX3_init 39 = .ok (.putfield 30, 3) := by decide +kernel
theorem dX3_init_42 : decode cX3_init 42 = .ok (.aload_n 0, 1) := by decide +kernel
theorem dX3_init_43 : decode cX3_init 43 = .ok (.bipush 20, 2) := by decide +kernel
theorem dX3_init_45 : decode cX3_init 45 = .ok (.newarray .int, 2) := by decide +kernel
theorem dX3_init_47 : decode cX3_init 47 = .ok (.putfield 34, 3) := by decide +kernel
theorem dX3_init_50 : decode cX3_init 50 = .ok (.aload_n 0, 1) := by decide +kernel
theorem dX3_init_51 : decode cX3_init 51 = .ok (.bipush 20, 2) := by decide +kernel
theorem dX3_init_53 : decode cX3_init 53 = .ok (.bipush 6, 2) := by decide +kernel
theorem dX3_init_55 : decode cX3_init 55 = .ok (.multianewarray 38 2, 4) := by decide +kernel
theorem dX3_init_59 : decode cX3_init 59 = .ok (.putfield 40, 3) := by decide +kernel
theorem dX3_init_62 : decode cX3_init 62 = .ok (.aload_n 0, 1) := by decide +kernel
theorem dX3_init_63 : decode cX3_init 63 = .ok (.iconst 0, 1) := by decide +kernel
theorem dX3_init_64 : decode cX3_init 64 = .ok (.putfield 43, 3) := by decide +kernel
theorem dX3_init_67 : decode cX3_init 67 = .ok (.return_, 1) := by decide +kernel
theorem dX3_add_0 : decode cX3_add 0 = .ok (.iconst 0, 1) := by decide +kernel
theorem dX3_add_1 : decode cX3_add 1 = .ok (.iload_n 1, 1) := by decide +kernel
theorem dX3_add_2 : decode cX3_add 2 = .ok (.invokestatic 46, 3) := by decide +kernel
theorem dX3_add_5 : decode cX3_add 5 = .ok (.ifCond .eq 11, 3) := by decide +kernel
theorem dX3_add_8 : decode cX3_add 8 = .ok (.iconst 1, 1) := by decide +kernel
theorem dX3_add_9 : decode cX3_add 9 = .ok (.iload_n 2, 1) := by decide +kernel
theorem dX3_add_10 : decode cX3_add 10 = .ok (.invokestatic 46, 3) := by decide +kernel
theorem dX3_add_13 : decode cX3_add 13 = .ok (.ifCond .ne 13, 3) := by decide +kernel
theorem dX3_add_16 : decode cX3_add 16 = .ok (.new 50, 3) := by decide +kernel
theorem dX3_add_19 : decode cX3_add 19 = .ok (.dup, 1) := by decide +kernel
theorem dX3_add_20 : decode cX3_add 20 = .ok (.ldc 52, 2) := by decide +kernel
theorem dX3_add_22 : decode cX3_add 22 = .ok (.invokespecial 54, 3) := by decide +kernel
theorem dX3_add_25 : decode cX3_add 25 = .ok (.athrow, 1) := by decide +kernel
theorem dX3_add_26 : decode cX3_add 26 = .ok (.aload_n 0, 1) := by decide +kernel
theorem dX3_add_27 : decode cX3_add 27 = .ok (.getfield 10, 3) := by decide +kernel
theorem dX3_add_30 : decode cX3_add 30 = .ok (.getfield 57, 3) := by decide +kernel
theorem dX3_add_33 : decode cX3_add 33 = .ok (.bipush 20, 2) := by decide +kernel
theorem dX3_add_35 : decode cX3_add 35 = .ok (.if_icmp .lt 13, 3) := by decide +kernel
theorem dX3_add_38 : decode cX3_add 38 = .ok (.new 60, 3) := by decide +kernel
theorem dX3_add_41 : decode cX3_add 41 = .ok (.dup, 1) := by decide +kernel
theorem dX3_add_42 : decode cX3_add 42 = .ok (.ldc 62, 2) := by decide +kernel
theorem dX3_add_44 : decode cX3_add 44 = .ok (.invokespecial 64, 3) := by decide +kernel
theorem dX3_add_47 : decode cX3_add 47 = .ok (.athrow, 1) := by decide +kernel
theorem dX3_add_48 : decode cX3_add 48 = .ok (.aload_n 0, 1) := by decide +kernel
theorem dX3_add_49 : decode cX3_add 49 = .ok (.getfield 10, 3) := by decide +kernel
theorem dX3_add_52 : decode cX3_add 52 = .ok (.iload_n 1, 1) := by decide +kernel
theorem dX3_add_53 : decode cX3_add 53 = .ok (.iload_n 2, 1) := by decide +kernel
theorem dX3_add_54 : decode cX3_add 54 = .ok (.invokevirtual 65, 3) := by decide +kernel
theorem dX3_add_57 : decode cX3_add 57 = .ok (.ireturn, 1) := by decide +kernel
theorem dX3_set_0 : decode cX3_set 0 = .ok (.aload_n 0, 1) := by decide +kernel
theorem dX3_set_1 : decode cX3_set 1 = .ok (.iload_n 1, 1) := by decide +kernel
theorem dX3_set_2 : decode cX3_set 2 = .ok (.invokevirtual 69, 3) := by decide +kernel
theorem dX3_set_5 : decode cX3_set 5 = .ok (.aload_n 0, 1) := by decide +kernel
theorem dX3_set_6 : decode cX3_set 6 = .ok (.iload_n 2, 1) := by decide +kernel
theorem dX3_set_7 : decode cX3_set 7 = .ok (.invokevirtual 73, 3) := by decide +kernel
theorem dX3_set_10 : decode cX3_set 10 = .ok (.iload_n 2, 1) := by decide +kernel
theorem dX3_set_11 : decode cX3_set 11 = .ok (.iload_n 3, 1) := by decide +kernel
theorem dX3_set_12 : decode cX3_set 12 = .ok (.invokestatic 46, 3) := by decide +kernel
theorem dX3_set_15 : decode cX3_set 15 = .ok (.ifCond .ne 13, 3) := by decide +kernel
theorem dX3_set_18 : decode cX3_set 18 = .ok (.new 50, 3) := by decide +kernel
theorem dX3_set_21 : decode cX3_set 21 = .ok (.dup, 1) := by decide +kernel
theorem dX3_set_22 : decode cX3_set 22 = .ok (.ldc 76, 2) := by decide +kernel
theorem dX3_set_24 : decode cX3_set 24 = .ok (.invokespecial 54, 3) := by decide +kernel
theorem dX3_set_27 : decode cX3_set 27 = .ok (.athrow, 1) := by decide +kernel
theorem dX3_set_28 : decode cX3_set 28 = .ok (.aload_n 0, 1) := by decide +kernel
theorem dX3_set_29 : decode cX3_set 29 = .ok (.getfield 10, 3) := by decide +kernel
theorem dX3_set_32 : decode cX3_set 32 = .ok (.getfield 78, 3) := by decide +kernel
theorem dX3_set_35 : decode cX3_set 35 = .ok (.iload_n 1, 1) := by decide +kernel
theorem dX3_set_36 : decode cX3_set 36 = .ok (.aaload, 1) := by decide +kernel
theorem dX3_set_37 : decode cX3_set 37 = .ok (.iload_n 2, 1) := by decide +kernel
theorem dX3_set_38 : decode cX3_set 38 = .ok (.iaload, 1) := by decide +kernel
theorem dX3_set_39 : decode cX3_set 39 = .ok (.istore 4, 2) := by decide +kernel
theorem dX3_set_41 : decode cX3_set 41 = .ok (.aload_n 0, 1) := by decide +kernel
theorem dX3_set_42 : decode cX3_set 42 = .ok (.getfield 10, 3) := by decide +kernel
theorem dX3_set_45 : decode cX3_set 45 = .ok (.getfield 78, 3) := by decide +kernel
theorem dX3_set_48 : decode cX3_set 48 = .ok (.iload_n 1, 1) := by decide +kernel
theorem dX3_set_49 : decode cX3_set 49 = .ok (.aaload, 1) := by decide +kernel
theorem dX3_set_50 : decode cX3_set 50 = .ok (.iload_n 2, 1) := by decide +kernel
theorem dX3_set_51 : decode cX3_set 51 = .ok (.iload_n 3, 1) := by decide +kernel
theorem dX3_set_52 : decode cX3_set 52 = .ok (.iastore, 1) := by decide +kernel
theorem dX3_set_53 : decode cX3_set 53 = .ok (.iload 4, 2) := by decide +kernel
theorem dX3_set_55 : decode cX3_set 55 = .ok (.ireturn, 1) := by decide +kernel
theorem dX3_property_0 : decode cX3_property 0 = .ok (.aload_n 0, 1) := by decide +kernel
theorem dX3_property_1 : decode cX3_property 1 = .ok (.iload_n 1, 1) := by decide +kernel
theorem dX3_property_2 : decode cX3_property 2 = .ok (.invokevirtual 69, 3) := by decide +kernel
theorem dX3_property_5 : decode cX3_property 5 = .ok (.aload_n 0, 1) := by decide +kernel
theorem dX3_property_6 : decode cX3_property 6 = .ok (.iload_n 2, 1) := by decide +kernel
theorem dX3_property_7 : decode cX3_property 7 = .ok (.invokevirtual 73, 3) := by decide +kernel
theorem dX3_property_10 : decode cX3_property 10 = .ok (.aload_n 0, 1) := by decide +kernel
theorem dX3_property_11 : decode cX3_property 11 = .ok (.getfield 10, 3) := by decide +kernel
theorem dX3_property_14 : decode cX3_property 14 = .ok (.getfield 78, 3) := by decide +kernel
theorem dX3_property_17 : decode cX3_property 17 = .ok (.iload_n 1, 1) := by decide +kernel
theorem dX3_property_18 : decode cX3_property 18 = .ok (.aaload, 1) := by decide +kernel
theorem dX3_property_19 : decode cX3_property 19 = .ok (.iload_n 2, 1) := by decide +kernel
theorem dX3_property_20 : decode cX3_property 20 = .ok (.iaload, 1) := by decide +kernel
theorem dX3_property_21 : decode cX3_property 21 = .ok (.ireturn, 1) := by decide +kernel
theorem dX3_depend_0 : decode cX3_depend 0 = .ok (.aload_n 0, 1) := by decide +kernel
theorem dX3_depend_1 : decode cX3_depend 1 = .ok (.iload_n 1, 1) := by decide +kernel
theorem dX3_depend_2 : decode cX3_depend 2 = .ok (.invokevirtual 69, 3) := by decide +kernel
theorem dX3_depend_5 : decode cX3_depend 5 = .ok (.aload_n 0, 1) := by decide +kernel
theorem dX3_depend_6 : decode cX3_depend 6 = .ok (.iload_n 2, 1) := by decide +kernel
theorem dX3_depend_7 : decode cX3_depend 7 = .ok (.iload_n 3, 1) := by decide +kernel
theorem dX3_depend_8 : decode cX3_depend 8 = .ok (.invokevirtual 81, 3) := by decide +kernel
theorem dX3_depend_11 : decode cX3_depend 11 = .ok (.iload 4, 2) := by decide +kernel
theorem dX3_depend_13 : decode cX3_depend 13 = .ok (.iconst 0, 1) := by decide +kernel
theorem dX3_depend_14 : decode cX3_depend 14 = .ok (.iconst 3, 1) := by decide +kernel
theorem dX3_depend_15 : decode cX3_depend 15 = .ok (.invokestatic 85, 3) := by decide +kernel
theorem dX3_depend_18 : decode cX3_depend 18 = .ok (.ifCond .ne 13, 3) := by decide +kernel
theorem dX3_depend_21 : decode cX3_depend 21 = .ok (.new 50, 3) := by decide +kernel
theorem dX3_depend_24 : decode cX3_depend 24 = .ok (.dup, 1) := by decide +kernel
theorem dX3_depend_25 : decode cX3_depend 25 = .ok (.ldc 89, 2) := by decide +kernel
theorem dX3_depend_27 : decode cX3_depend 27 = .ok (.invokespecial 54, 3) := by decide +kernel
theorem dX3_depend_30 : decode cX3_depend 30 = .ok (.athrow, 1) := by decide +kernel
theorem dX3_depend_31 : decode cX3_depend 31 = .ok (.aload_n 0, 1) := by decide +kernel
theorem dX3_depend_32 : decode cX3_depend 32 = .ok (.getfield 10, 3) := by decide +kernel
theorem dX3_depend_35 : decode cX3_depend 35 = .ok (.getfield 91, 3) := by decide +kernel
theorem dX3_depend_38 : decode cX3_depend 38 = .ok (.iload_n 1, 1) := by decide +kernel
theorem dX3_depend_39 : decode cX3_depend 39 = .ok (.iaload, 1) := by decide +kernel
theorem dX3_depend_40 : decode cX3_depend 40 = .ok (.bipush 6, 2) := by decide +kernel
theorem dX3_depend_42 : decode cX3_depend 42 = .ok (.if_icmp .lt 13, 3) := by decide +kernel
theorem dX3_depend_45 : decode cX3_depend 45 = .ok (.new 60, 3) := by decide +kernel
theorem dX3_depend_48 : decode cX3_depend 48 = .ok (.dup, 1) := by decide +kernel
theorem dX3_depend_49 : decode cX3_depend 49 = .ok (.ldc 94, 2) := by decide +kernel
theorem dX3_depend_51 : decode cX3_depend 51 = .ok (.invokespecial 64, 3) := by decide +kernel
theorem dX3_depend_54 : decode cX3_depend 54 = .ok (.athrow, 1) := by decide +kernel
theorem dX3_depend_55 : decode cX3_depend 55 = .ok (.aload_n 0, 1) := by decide +kernel
theorem dX3_depend_56 : decode cX3_depend 56 = .ok (.getfield 10, 3) := by decide +kernel
theorem dX3_depend_59 : decode cX3_depend 59 = .ok (.iload_n 1, 1) := by decide +kernel
theorem dX3_depend_60 : decode cX3_depend 60 = .ok (.iload_n 2, 1) := by decide +kernel
theorem dX3_depend_61 : decode cX3_depend 61 = .ok (.iload_n 3, 1) := by decide +kernel
theorem dX3_depend_62 : decode cX3_depend 62 = .ok (.iload 4, 2) := by decide +kernel
theorem dX3_depend_64 : decode cX3_depend 64 = .ok (.invokevirtual 96, 3) := by decide +kernel
theorem dX3_depend_67 : decode cX3_depend 67 = .ok (.ireturn, 1) := by decide +kernel
theorem dX3_clear_0 : decode cX3_clear 0 = .ok (.aload_n 0, 1) := by decide +kernel
theorem dX3_clear_1 : decode cX3_clear 1 = .ok (.iload_n 1, 1) := by decide +kernel
theorem dX3_clear_2 : decode cX3_clear 2 = .ok (.invokevirtual 69, 3) := by decide +kernel
theorem dX3_clear_5 : decode cX3_clear 5 = .ok (.aload_n 0, 1) := by decide +kernel
theorem dX3_clear_6 : decode cX3_clear 6 = .ok (.getfield 10, 3) := by decide +kernel
theorem dX3_clear_9 : decode cX3_clear 9 = .ok (.getfield 91, 3) := by decide +kernel
theorem dX3_clear_12 : decode cX3_clear 12 = .ok (.iload_n 1, 1) := by decide +kernel
theorem dX3_clear_13 : decode cX3_clear 13 = .ok (.iaload, 1) := by decide +kernel
theorem dX3_clear_14 : decode cX3_clear 14 = .ok (.istore_n 2, 1) := by decide +kernel
theorem dX3_clear_15 : decode cX3_clear 15 = .ok (.aload_n 0, 1) := by decide +kernel
theorem dX3_clear_16 : decode cX3_clear 16 = .ok (.getfield 10, 3) := by decide +kernel
theorem dX3_clear_19 : decode cX3_clear 19 = .ok (.getfield 91, 3) := by decide +kernel
theorem dX3_clear_22 : decode cX3_clear 22 = .ok (.iload_n 1, 1) := by decide +kernel
theorem dX3_clear_23 : decode cX3_clear 23 = .ok (.iconst 0, 1) := by decide +kernel
theorem dX3_clear_24 : decode cX3_clear 24 = .ok (.iastore, 1) := by decide +kernel
theorem dX3_clear_25 : decode cX3_clear 25 = .ok (.iload_n 2, 1) := by decide +kernel
theorem dX3_clear_26 : decode cX3_clear 26 = .ok (.ireturn, 1) := by decide +kernel
theorem dX3_dependency_0 : decode cX3_dependency 0 = .ok (.aload_n 0, 1) := by decide +kernel
theorem dX3_dependency_1 : decode cX3_dependency 1 = .ok (.iload_n 1, 1) := by decide +kernel
theorem dX3_dependency_2 : decode cX3_dependency 2 = .ok (.invokevirtual 69, 3) := by decide +kernel
theorem dX3_dependency_5 : decode cX3_dependency 5 = .ok (.iload_n 3, 1) := by decide +kernel
theorem dX3_dependency_6 : decode cX3_dependency 6 = .ok (.iconst 0, 1) := by decide +kernel
theorem dX3_dependency_7 : decode cX3_dependency 7 = .ok (.iconst 2, 1) := by decide +kernel
theorem dX3_dependency_8 : decode cX3_dependency 8 = .ok (.invokestatic 85, 3) := by decide +kernel
theorem dX3_dependency_11 : decode cX3_dependency 11 = .ok (.ifCond .ne 13, 3) := by decide +kernel
theorem dX3_dependency_14 : decode cX3_dependency 14 = .ok (.new 50, 3) := by decide +kernel
theorem dX3_dependency_17 : decode cX3_dependency 17 = .ok (.dup, 1) := by decide +kernel
theorem dX3_dependency_18 : decode cX3_dependency 18 = .ok (.ldc 100, 2) := by decide +kernel
theorem dX3_dependency_20 : decode cX3_dependency 20 = .ok (.invokespecial 54, 3) := by decide +kernel
theorem dX3_dependency_23 : decode cX3_dependency 23 = .ok (.athrow, 1) := by decide +kernel
theorem dX3_dependency_24 : decode cX3_dependency 24 = .ok (.iload_n 2, 1) := by decide +kernel
theorem dX3_dependency_25 : decode cX3_dependency 25 = .ok (.iconst (-1), 1) := by decide +kernel
theorem dX3_dependency_26 : decode cX3_dependency 26 = .ok (.if_icmp .ne 13, 3) := by decide +kernel
theorem dX3_dependency_29 : decode cX3_dependency 29 = .ok (.aload_n 0, 1) := by decide +kernel
theorem dX3_dependency_30 : decode cX3_dependency 30 = .ok (.getfield 10, 3) := by decide +kernel
theorem dX3_dependency_33 : decode cX3_dependency 33 = .ok (.getfield 91, 3) := by decide +kernel
theorem dX3_dependency_36 : decode cX3_dependency 36 = .ok (.iload_n 1, 1) := by decide +kernel
theorem dX3_dependency_37 : decode cX3_dependency 37 = .ok (.iaload, 1) := by decide +kernel
theorem dX3_dependency_38 : decode cX3_dependency 38 = .ok (.ireturn, 1) := by decide +kernel
theorem dX3_dependency_39 : decode cX3_dependency 39 = .ok (.aload_n 0, 1) := by decide +kernel
theorem dX3_dependency_40 : decode cX3_dependency 40 = .ok (.getfield 10, 3) := by decide +kernel
theorem dX3_dependency_43 : decode cX3_dependency 43 = .ok (.iload_n 1, 1) := by decide +kernel
theorem dX3_dependency_44 : decode cX3_dependency 44 = .ok (.iload_n 2, 1) := by decide +kernel
theorem dX3_dependency_45 : decode cX3_dependency 45 = .ok (.invokevirtual 102, 3) := by decide +kernel
theorem dX3_dependency_48 : decode cX3_dependency 48 = .ok (.ifCond .eq 16, 3) := by decide +kernel
theorem dX3_dependency_51 : decode cX3_dependency 51 = .ok (.aload_n 0, 1) := by decide +kernel
theorem dX3_dependency_52 : decode cX3_dependency 52 = .ok (.getfield 10, 3) := by decide +kernel
theorem dX3_dependency_55 : decode cX3_dependency 55 = .ok (.iload_n 1, 1) := by decide +kernel
theorem dX3_dependency_56 : decode cX3_dependency 56 = .ok (.iload_n 2, 1) := by decide +kernel
theorem dX3_dependency_57 : decode cX3_dependency 57 = .ok (.iload_n 3, 1) := by decide +kernel
theorem dX3_dependency_58 : decode cX3_dependency 58 = .ok (.invokevirtual 105, 3) := by decide +kernel
theorem dX3_dependency_61 : decode cX3_dependency 61 = .ok (.goto 4, 3) := by decide +kernel
theorem dX3_dependency_64 : decode cX3_dependency 64 = .ok (.iconst (-1), 1) := by decide +kernel
theorem dX3_dependency_65 : decode cX3_dependency 65 = .ok (.ireturn, 1) := by decide +kernel
theorem dX3_profile_0 : decode cX3_profile 0 = .ok (.iload_n 1, 1) := by decide +kernel
theorem dX3_profile_1 : decode cX3_profile 1 = .ok (.iconst 0, 1) := by decide +kernel
theorem dX3_profile_2 : decode cX3_profile 2 = .ok (.bipush 7, 2) := by decide +kernel
theorem dX3_profile_4 : decode cX3_profile 4 = .ok (.invokestatic 85, 3) := by decide +kernel
theorem dX3_profile_7 : decode cX3_profile 7 = .ok (.ifCond .ne 13, 3) := by decide +kernel
theorem dX3_profile_10 : decode cX3_profile 10 = .ok (.new 50, 3) := by decide +kernel
theorem dX3_profile_13 : decode cX3_profile 13 = .ok (.dup, 1) := by decide +kernel
theorem dX3_profile_14 : decode cX3_profile 14 = .ok (.ldc 109, 2) := by decide +kernel
theorem dX3_profile_16 : decode cX3_profile 16 = .ok (.invokespecial 54, 3) := by decide +kernel
theorem dX3_profile_19 : decode cX3_profile 19 = .ok (.athrow, 1) := by decide +kernel
theorem dX3_profile_20 : decode cX3_profile 20 = .ok (.aload_n 0, 1) := by decide +kernel
theorem dX3_profile_21 : decode cX3_profile 21 = .ok (.getfield 10, 3) := by decide +kernel
theorem dX3_profile_24 : decode cX3_profile 24 = .ok (.getfield 111, 3) := by decide +kernel
theorem dX3_profile_27 : decode cX3_profile 27 = .ok (.iload_n 1, 1) := by decide +kernel
theorem dX3_profile_28 : decode cX3_profile 28 = .ok (.invokestatic 114, 3) := by decide +kernel
theorem dX3_profile_31 : decode cX3_profile 31 = .ok (.istore_n 3, 1) := by decide +kernel
theorem dX3_profile_32 : decode cX3_profile 32 = .ok (.aload_n 0, 1) := by decide +kernel
theorem dX3_profile_33 : decode cX3_profile 33 = .ok (.getfield 10, 3) := by decide +kernel
theorem dX3_profile_36 : decode cX3_profile 36 = .ok (.iload_n 1, 1) := by decide +kernel
theorem dX3_profile_37 : decode cX3_profile 37 = .ok (.iload_n 2, 1) := by decide +kernel
theorem dX3_profile_38 : decode cX3_profile 38 = .ok (.invokevirtual 117, 3) := by decide +kernel
theorem dX3_profile_41 : decode cX3_profile 41 = .ok (.iload_n 3, 1) := by decide +kernel
theorem dX3_profile_42 : decode cX3_profile 42 = .ok (.ireturn, 1) := by decide +kernel
theorem dX3_components_0 : decode cX3_components 0 = .ok (.aload_n 0, 1) := by decide +kernel
theorem dX3_components_1 : decode cX3_components 1 = .ok (.getfield 10, 3) := by decide +kernel
theorem dX3_components_4 : decode cX3_components 4 = .ok (.getfield 57, 3) := by decide +kernel
theorem dX3_components_7 : decode cX3_components 7 = .ok (.ireturn, 1) := by decide +kernel
theorem dX3_candidates_0 : decode cX3_candidates 0 = .ok (.aload_n 0, 1) := by decide +kernel
theorem dX3_candidates_1 : decode cX3_candidates 1 = .ok (.iload_n 1, 1) := by decide +kernel
theorem dX3_candidates_2 : decode cX3_candidates 2 = .ok (.iload_n 2, 1) := by decide +kernel
theorem dX3_candidates_3 : decode cX3_candidates 3 = .ok (.invokevirtual 81, 3) := by decide +kernel
theorem dX3_candidates_6 : decode cX3_candidates 6 = .ok (.aload_n 0, 1) := by decide +kernel
theorem dX3_candidates_7 : decode cX3_candidates 7 = .ok (.getfield 10, 3) := by decide +kernel
theorem dX3_candidates_10 : decode cX3_candidates 10 = .ok (.iload_n 1, 1) := by decide +kernel
theorem dX3_candidates_11 : decode cX3_candidates 11 = .ok (.iload_n 2, 1) := by decide +kernel
theorem dX3_candidates_12 : decode cX3_candidates 12 = .ok (.invokevirtual 121, 3) := by decide +kernel
theorem dX3_candidates_15 : decode cX3_candidates 15 = .ok (.ireturn, 1) := by decide +kernel
theorem dX3_chosen_0 : decode cX3_chosen 0 = .ok (.aload_n 0, 1) := by decide +kernel
theorem dX3_chosen_1 : decode cX3_chosen 1 = .ok (.iload_n 1, 1) := by decide +kernel
theorem dX3_chosen_2 : decode cX3_chosen 2 = .ok (.iload_n 2, 1) := by decide +kernel
theorem dX3_chosen_3 : decode cX3_chosen 3 = .ok (.invokevirtual 81, 3) := by decide +kernel
theorem dX3_chosen_6 : decode cX3_chosen 6 = .ok (.aload_n 0, 1) := by decide +kernel
theorem dX3_chosen_7 : decode cX3_chosen 7 = .ok (.getfield 10, 3) := by decide +kernel
theorem dX3_chosen_10 : decode cX3_chosen 10 = .ok (.aload_n 0, 1) := by decide +kernel
theorem dX3_chosen_11 : decode cX3_chosen 11 = .ok (.getfield 10, 3) := by decide +kernel
theorem dX3_chosen_14 : decode cX3_chosen 14 = .ok (.iload_n 1, 1) := by decide +kernel
theorem dX3_chosen_15 : decode cX3_chosen 15 = .ok (.iload_n 2, 1) := by decide +kernel
theorem dX3_chosen_16 : decode cX3_chosen 16 = .ok (.invokevirtual 121, 3) := by decide +kernel
theorem dX3_chosen_19 : decode cX3_chosen 19 = .ok (.invokevirtual 124, 3) := by decide +kernel
theorem dX3_chosen_22 : decode cX3_chosen 22 = .ok (.ireturn, 1) := by decide +kernel
theorem dX3_problem_0 : decode cX3_problem 0 = .ok (.aload_n 0, 1) := by decide +kernel
theorem dX3_problem_1 : decode cX3_problem 1 = .ok (.iload_n 1, 1) := by decide +kernel
theorem dX3_problem_2 : decode cX3_problem 2 = .ok (.invokevirtual 69, 3) := by decide +kernel
theorem dX3_problem_5 : decode cX3_problem 5 = .ok (.aload_n 0, 1) := by decide +kernel
theorem dX3_problem_6 : decode cX3_problem 6 = .ok (.iconst 0, 1) := by decide +kernel
theorem dX3_problem_7 : decode cX3_problem 7 = .ok (.putfield 43, 3) := by decide +kernel
theorem dX3_problem_10 : decode cX3_problem 10 = .ok (.aload_n 0, 1) := by decide +kernel
theorem dX3_problem_11 : decode cX3_problem 11 = .ok (.iload_n 1, 1) := by decide +kernel
theorem dX3_problem_12 : decode cX3_problem 12 = .ok (.iconst 0, 1) := by decide +kernel
theorem dX3_problem_13 : decode cX3_problem 13 = .ok (.invokevirtual 128, 3) := by decide +kernel
theorem dX3_problem_16 : decode cX3_problem 16 = .ok (.ireturn, 1) := by decide +kernel
theorem dX3_needs_0 : decode cX3_needs 0 = .ok (.aload_n 0, 1) := by decide +kernel
theorem dX3_needs_1 : decode cX3_needs 1 = .ok (.iload_n 1, 1) := by decide +kernel
theorem dX3_needs_2 : decode cX3_needs 2 = .ok (.invokevirtual 69, 3) := by decide +kernel
theorem dX3_needs_5 : decode cX3_needs 5 = .ok (.aload_n 0, 1) := by decide +kernel
theorem dX3_needs_6 : decode cX3_needs 6 = .ok (.getfield 10, 3) := by decide +kernel
theorem dX3_needs_9 : decode cX3_needs 9 = .ok (.iload_n 1, 1) := by decide +kernel
theorem dX3_needs_10 : decode cX3_needs 10 = .ok (.invokevirtual 131, 3) := by decide +kernel
theorem dX3_needs_13 : decode cX3_needs 13 = .ok (.ireturn, 1) := by decide +kernel
theorem dX3_resolve_0 : decode cX3_resolve 0 = .ok (.aload_n 0, 1) := by decide +kernel
theorem dX3_resolve_1 : decode cX3_resolve 1 = .ok (.iload_n 1, 1) := by decide +kernel
theorem dX3_resolve_2 : decode cX3_resolve 2 = .ok (.iload_n 2, 1) := by decide +kernel
theorem dX3_resolve_3 : decode cX3_resolve 3 = .ok (.invokevirtual 81, 3) := by decide +kernel
theorem dX3_resolve_6 : decode cX3_resolve 6 = .ok (.aload_n 0, 1) := by decide +kernel
theorem dX3_resolve_7 : decode cX3_resolve 7 = .ok (.iload_n 1, 1) := by decide +kernel
theorem dX3_resolve_8 : decode cX3_resolve 8 = .ok (.iload_n 2, 1) := by decide +kernel
theorem dX3_resolve_9 : decode cX3_resolve 9 = .ok (.invokevirtual 134, 3) := by decide +kernel
theorem dX3_resolve_12 : decode cX3_resolve 12 = .ok (.ireturn, 1) := by decide +kernel
theorem dX3_provide_0 : decode cX3_provide 0 = .ok (.aload_n 0, 1) := by decide +kernel
theorem dX3_provide_1 : decode cX3_provide 1 = .ok (.iload_n 1, 1) := by decide +kernel
theorem dX3_provide_2 : decode cX3_provide 2 = .ok (.invokevirtual 137, 3) := by decide +kernel
theorem dX3_provide_5 : decode cX3_provide 5 = .ok (.aload_n 0, 1) := by decide +kernel
theorem dX3_provide_6 : decode cX3_provide 6 = .ok (.getfield 19, 3) := by decide +kernel
theorem dX3_provide_9 : decode cX3_provide 9 = .ok (.getfield 140, 3) := by decide +kernel
theorem dX3_provide_12 : decode cX3_provide 12 = .ok (.iload_n 1, 1) := by decide +kernel
theorem dX3_provide_13 : decode cX3_provide 13 = .ok (.iaload, 1) := by decide +kernel
theorem dX3_provide_14 : decode cX3_provide 14 = .ok (.istore_n 3, 1) := by decide +kernel
theorem dX3_provide_15 : decode cX3_provide 15 = .ok (.aload_n 0, 1) := by decide +kernel
theorem dX3_provide_16 : decode cX3_provide 16 = .ok (.getfield 10, 3) := by decide +kernel
theorem dX3_provide_19 : decode cX3_provide 19 = .ok (.iload_n 3, 1) := by decide +kernel
theorem dX3_provide_20 : decode cX3_provide 20 = .ok (.iload_n 2, 1) := by decide +kernel
theorem dX3_provide_21 : decode cX3_provide 21 = .ok (.invokevirtual 102, 3) := by decide +kernel
theorem dX3_provide_24 : decode cX3_provide 24 = .ok (.ifCond .eq 17, 3) := by decide +kernel
theorem dX3_provide_27 : decode cX3_provide 27 = .ok (.aload_n 0, 1) := by decide +kernel
theorem dX3_provide_28 : decode cX3_provide 28 = .ok (.getfield 10, 3) := by decide +kernel
theorem dX3_provide_31 : decode cX3_provide 31 = .ok (.iload_n 3, 1) := by decide +kernel
theorem dX3_provide_32 : decode cX3_provide 32 = .ok (.iload_n 2, 1) := by decide +kernel
theorem dX3_provide_33 : decode cX3_provide 33 = .ok (.iconst 2, 1) := by decide +kernel
theorem dX3_provide_34 : decode cX3_provide 34 = .ok (.invokevirtual 105, 3) := by decide +kernel
theorem dX3_provide_37 : decode cX3_provide 37 = .ok (.iconst 3, 1) := by decide +kernel
theorem dX3_provide_38 : decode cX3_provide 38 = .ok (.if_icmp .eq 13, 3) := by decide +kernel
theorem dX3_provide_41 : decode cX3_provide 41 = .ok (.new 50, 3) := by decide +kernel
theorem dX3_provide_44 : decode cX3_provide 44 = .ok (.dup, 1) := by decide +kernel
theorem dX3_provide_45 : decode cX3_provide 45 = .ok (.ldc 143, 2) := by decide +kernel
theorem dX3_provide_47 : decode cX3_provide 47 = .ok (.invokespecial 54, 3) := by decide +kernel
theorem dX3_provide_50 : decode cX3_provide 50 = .ok (.athrow, 1) := by decide +kernel
theorem dX3_provide_51 : decode cX3_provide 51 = .ok (.aload_n 0, 1) := by decide +kernel
theorem dX3_provide_52 : decode cX3_provide 52 = .ok (.getfield 19, 3) := by decide +kernel
theorem dX3_provide_55 : decode cX3_provide 55 = .ok (.getfield 145, 3) := by decide +kernel
theorem dX3_provide_58 : decode cX3_provide 58 = .ok (.iload_n 1, 1) := by decide +kernel
theorem dX3_provide_59 : decode cX3_provide 59 = .ok (.baload, 1) := by decide +kernel
theorem dX3_provide_60 : decode cX3_provide 60 = .ok (.ifCond .ne 13, 3) := by decide +kernel
theorem dX3_provide_63 : decode cX3_provide 63 = .ok (.new 60, 3) := by decide +kernel
theorem dX3_provide_66 : decode cX3_provide 66 = .ok (.dup, 1) := by decide +kernel
theorem dX3_provide_67 : decode cX3_provide 67 = .ok (.ldc 149, 2) := by decide +kernel
theorem dX3_provide_69 : decode cX3_provide 69 = .ok (.invokespecial 64, 3) := by decide +kernel
theorem dX3_provide_72 : decode cX3_provide 72 = .ok (.athrow, 1) := by decide +kernel
theorem dX3_provide_73 : decode cX3_provide 73 = .ok (.aload_n 0, 1) := by decide +kernel
theorem dX3_provide_74 : decode cX3_provide 74 = .ok (.aload_n 0, 1) := by decide +kernel
theorem dX3_provide_75 : decode cX3_provide 75 = .ok (.getfield 10, 3) := by decide +kernel
theorem dX3_provide_78 : decode cX3_provide 78 = .ok (.iload_n 3, 1) := by decide +kernel
theorem dX3_provide_79 : decode cX3_provide 79 = .ok (.iload_n 2, 1) := by decide +kernel
theorem dX3_provide_80 : decode cX3_provide 80 = .ok (.iconst 0, 1) := by decide +kernel
theorem dX3_provide_81 : decode cX3_provide 81 = .ok (.invokevirtual 105, 3) := by decide +kernel
theorem dX3_provide_84 : decode cX3_provide 84 = .ok (.aload_n 0, 1) := by decide +kernel
theorem dX3_provide_85 : decode cX3_provide 85 = .ok (.getfield 10, 3) := by decide +kernel
theorem dX3_provide_88 : decode cX3_provide 88 = .ok (.iload_n 3, 1) := by decide +kernel
theorem dX3_provide_89 : decode cX3_provide 89 = .ok (.iload_n 2, 1) := by decide +kernel
theorem dX3_provide_90 : decode cX3_provide 90 = .ok (.iconst 1, 1) := by decide +kernel
theorem dX3_provide_91 : decode cX3_provide 91 = .ok (.invokevirtual 105, 3) := by decide +kernel
theorem dX3_provide_94 : decode cX3_provide 94 = .ok (.invokevirtual 134, 3) := by decide +kernel
theorem dX3_provide_97 : decode cX3_provide 97 = .ok (.ireturn, 1) := by decide +kernel
theorem dX3_start_0 : decode cX3_start 0 = .ok (.aload_n 0, 1) := by decide +kernel
theorem dX3_start_1 : decode cX3_start 1 = .ok (.getfield 19, 3) := by decide +kernel
theorem dX3_start_4 : decode cX3_start 4 = .ok (.getfield 151, 3) := by decide +kernel
theorem dX3_start_7 : decode cX3_start 7 = .ok (.istore_n 1, 1) := by decide +kernel
theorem dX3_start_8 : decode cX3_start 8 = .ok (.iconst 0, 1) := by decide +kernel
theorem dX3_start_9 : decode cX3_start 9 = .ok (.istore_n 2, 1) := by decide +kernel
theorem dX3_start_10 : decode cX3_start 10 = .ok (.iload_n 2, 1) := by decide +kernel
theorem dX3_start_11 : decode cX3_start 11 = .ok (.aload_n 0, 1) := by decide +kernel
theorem dX3_start_12 : decode cX3_start 12 = .ok (.getfield 10, 3) := by decide +kernel
theorem dX3_start_15 : decode cX3_start 15 = .ok (.getfield 57, 3) := by decide +kernel
theorem dX3_start_18 : decode cX3_start 18 = .ok (.if_icmp .ge 49, 3) := by decide +kernel
theorem dX3_start_21 : decode cX3_start 21 = .ok (.aload_n 0, 1) := by decide +kernel
theorem dX3_start_22 : decode cX3_start 22 = .ok (.getfield 10, 3) := by decide +kernel
theorem dX3_start_25 : decode cX3_start 25 = .ok (.iload_n 2, 1) := by decide +kernel
theorem dX3_start_26 : decode cX3_start 26 = .ok (.invokevirtual 152, 3) := by decide +kernel
theorem dX3_start_29 : decode cX3_start 29 = .ok (.ifCond .eq 32, 3) := by decide +kernel
theorem dX3_start_32 : decode cX3_start 32 = .ok (.aload_n 0, 1) := by decide +kernel
theorem dX3_start_33 : decode cX3_start 33 = .ok (.iload_n 2, 1) := by decide +kernel
theorem dX3_start_34 : decode cX3_start 34 = .ok (.iconst 0, 1) := by decide +kernel
theorem dX3_start_35 : decode cX3_start 35 = .ok (.invokevirtual 156, 3) := by decide +kernel
theorem dX3_start_38 : decode cX3_start 38 = .ok (.bipush (-2), 2) := by decide +kernel
theorem dX3_start_40 : decode cX3_start 40 = .ok (.if_icmp .ne 21, 3) := by decide +kernel
theorem dX3_start_43 : decode cX3_start 43 = .ok (.aload_n 0, 1) := by decide +kernel
theorem dX3_start_44 : decode cX3_start 44 = .ok (.getfield 19, 3) := by decide +kernel
theorem dX3_start_47 : decode cX3_start 47 = .ok (.iload_n 1, 1) := by decide +kernel
theorem dX3_start_48 : decode cX3_start 48 = .ok (.invokevirtual 159, 3) := by decide +kernel
theorem dX3_start_51 : decode cX3_start 51 = .ok (.new 60, 3) := by decide +kernel
theorem dX3_start_54 : decode cX3_start 54 = .ok (.dup, 1) := by decide +kernel
theorem dX3_start_55 : decode cX3_start 55 = .ok (.ldc 162, 2) := by decide +kernel
theorem dX3_start_57 : decode cX3_start 57 = .ok (.invokespecial 64, 3) := by decide +kernel
theorem dX3_start_60 : decode cX3_start 60 = .ok (.athrow, 1) := by decide +kernel
theorem dX3_start_61 : decode cX3_start 61 = .ok (.iinc 2 1, 3) := by decide +kernel
theorem dX3_start_64 : decode cX3_start 64 = .ok (.goto (-54), 3) := by decide +kernel
theorem dX3_start_67 : decode cX3_start 67 = .ok (.aload_n 0, 1) := by decide +kernel
theorem dX3_start_68 : decode cX3_start 68 = .ok (.getfield 19, 3) := by decide +kernel
theorem dX3_start_71 : decode cX3_start 71 = .ok (.getfield 151, 3) := by decide +kernel
theorem dX3_start_74 : decode cX3_start 74 = .ok (.iload_n 1, 1) := by decide +kernel
theorem dX3_start_75 : decode cX3_start 75 = .ok (.isub, 1) := by decide +kernel
theorem dX3_start_76 : decode cX3_start 76 = .ok (.ireturn, 1) := by decide +kernel
theorem dX3_begin_0 : decode cX3_begin 0 = .ok (.aload_n 0, 1) := by decide +kernel
theorem dX3_begin_1 : decode cX3_begin 1 = .ok (.getfield 30, 3) := by decide +kernel
theorem dX3_begin_4 : decode cX3_begin 4 = .ok (.iconst 5, 1) := by decide +kernel
theorem dX3_begin_5 : decode cX3_begin 5 = .ok (.if_icmp .lt 13, 3) := by decide +kernel
theorem dX3_begin_8 : decode cX3_begin 8 = .ok (.new 60, 3) := by decide +kernel
theorem dX3_begin_11 : decode cX3_begin 11 = .ok (.dup, 1) := by decide +kernel
theorem dX3_begin_12 : decode cX3_begin 12 = .ok (.ldc 164, 2) := by decide +kernel
theorem dX3_begin_14 : decode cX3_begin 14 = .ok (.invokespecial 64, 3) := by decide +kernel
theorem dX3_begin_17 : decode cX3_begin 17 = .ok (.athrow, 1) := by decide +kernel
theorem dX3_begin_18 : decode cX3_begin 18 = .ok (.aload_n 0, 1) := by decide +kernel
theorem dX3_begin_19 : decode cX3_begin 19 = .ok (.dup, 1) := by decide +kernel
theorem dX3_begin_20 : decode cX3_begin 20 = .ok (.getfield 30, 3) := by decide +kernel
theorem dX3_begin_23 : decode cX3_begin 23 = .ok (.iconst 1, 1) := by decide +kernel
theorem dX3_begin_24 : decode cX3_begin 24 = .ok (.iadd, 1) := by decide +kernel
theorem dX3_begin_25 : decode cX3_begin 25 = .ok (.putfield 30, 3) := by decide +kernel
theorem dX3_begin_28 : decode cX3_begin 28 = .ok (.aload_n 0, 1) := by decide +kernel
theorem dX3_begin_29 : decode cX3_begin 29 = .ok (.getfield 30, 3) := by decide +kernel
theorem dX3_begin_32 : decode cX3_begin 32 = .ok (.ireturn, 1) := by decide +kernel
theorem dX3_end_0 : decode cX3_end 0 = .ok (.aload_n 0, 1) := by decide +kernel
theorem dX3_end_1 : decode cX3_end 1 = .ok (.getfield 30, 3) := by decide +kernel
theorem dX3_end_4 : decode cX3_end 4 = .ok (.ifCond .ne 13, 3) := by decide +kernel
theorem dX3_end_7 : decode cX3_end 7 = .ok (.new 60, 3) := by decide +kernel
theorem dX3_end_10 : decode cX3_end 10 = .ok (.dup, 1) := by decide +kernel
theorem dX3_end_11 : decode cX3_end 11 = .ok (.ldc 166, 2) := by decide +kernel
theorem dX3_end_13 : decode cX3_end 13 = .ok (.invokespecial 64, 3) := by decide +kernel
theorem dX3_end_16 : decode cX3_end 16 = .ok (.athrow, 1) := by decide +kernel
theorem dX3_end_17 : decode cX3_end 17 = .ok (.aload_n 0, 1) := by decide +kernel
theorem dX3_end_18 : decode cX3_end 18 = .ok (.invokevirtual 168, 3) := by decide +kernel
theorem dX3_end_21 : decode cX3_end 21 = .ok (.ireturn, 1) := by decide +kernel
theorem dX3_close_0 : decode cX3_close 0 = .ok (.iconst 0, 1) := by decide +kernel
theorem dX3_close_1 : decode cX3_close 1 = .ok (.istore_n 1, 1) := by decide +kernel
theorem dX3_close_2 : decode cX3_close 2 = .ok (.aload_n 0, 1) := by decide +kernel
theorem dX3_close_3 : decode cX3_close 3 = .ok (.getfield 30, 3) := by decide +kernel
theorem dX3_close_6 : decode cX3_close 6 = .ok (.istore_n 2, 1) := by decide +kernel
theorem dX3_close_7 : decode cX3_close 7 = .ok (.iload_n 2, 1) := by decide +kernel
theorem dX3_close_8 : decode cX3_close 8 = .ok (.ifCond .le 16, 3) := by decide +kernel
theorem dX3_close_11 : decode cX3_close 11 = .ok (.iload_n 1, 1) := by decide +kernel
theorem dX3_close_12 : decode cX3_close 12 = .ok (.aload_n 0, 1) := by decide +kernel
theorem dX3_close_13 : decode cX3_close 13 = .ok (.invokevirtual 168, 3) := by decide +kernel
theorem dX3_close_16 : decode cX3_close 16 = .ok (.iadd, 1) := by decide +kernel
theorem dX3_close_17 : decode cX3_close 17 = .ok (.istore_n 1, 1) := by decide +kernel
theorem dX3_close_18 : decode cX3_close 18 = .ok (.iinc 2 (-1), 3) := by decide +kernel
theorem dX3_close_21 : decode cX3_close 21 = .ok (.goto (-14), 3) := by decide +kernel
theorem dX3_close_24 : decode cX3_close 24 = .ok (.iload_n 1, 1) := by decide +kernel
theorem dX3_close_25 : decode cX3_close 25 = .ok (.aload_n 0, 1) := by decide +kernel
theorem dX3_close_26 : decode cX3_close 26 = .ok (.getfield 19, 3) := by decide +kernel
theorem dX3_close_29 : decode cX3_close 29 = .ok (.iconst 0, 1) := by decide +kernel
theorem dX3_close_30 : decode cX3_close 30 = .ok (.invokevirtual 172, 3) := by decide +kernel
theorem dX3_close_33 : decode cX3_close 33 = .ok (.iadd, 1) := by decide +kernel
theorem dX3_close_34 : decode cX3_close 34 = .ok (.ireturn, 1) := by decide +kernel
theorem dX3_instances_0 : decode cX3_instances 0 = .ok (.aload_n 0, 1) := by decide +kernel
theorem dX3_instances_1 : decode cX3_instances 1 = .ok (.getfield 19, 3) := by decide +kernel
theorem dX3_instances_4 : decode cX3_instances 4 = .ok (.getfield 151, 3) := by decide +kernel
theorem dX3_instances_7 : decode cX3_instances 7 = .ok (.ireturn, 1) := by decide +kernel
theorem dX3_componentOf_0 : decode cX3_componentOf 0 = .ok (.aload_n 0, 1) := by decide +kernel
theorem dX3_componentOf_1 : decode cX3_componentOf 1 = .ok (.iload_n 1, 1) := by decide +kernel
theorem dX3_componentOf_2 : decode cX3_componentOf 2 = .ok (.invokevirtual 137, 3) := by decide +kernel
theorem dX3_componentOf_5 : decode cX3_componentOf 5 = .ok (.aload_n 0, 1) := by decide +kernel
theorem dX3_componentOf_6 : decode cX3_componentOf 6 = .ok (.getfield 19, 3) := by decide +kernel
theorem dX3_componentOf_9 : decode cX3_componentOf 9 = .ok (.getfield 140, 3) := by decide +kernel
theorem dX3_componentOf_12 : decode cX3_componentOf 12 = .ok (.iload_n 1, 1) := by decide +kernel
theorem dX3_componentOf_13 : decode cX3_componentOf 13 = .ok (.iaload, 1) := by decide +kernel
theorem dX3_componentOf_14 : decode cX3_componentOf 14 = .ok (.ireturn, 1) := by decide +kernel
theorem dX3_isAlive_0 : decode cX3_isAlive 0 = .ok (.aload_n 0, 1) := by decide +kernel
theorem dX3_isAlive_1 : decode cX3_isAlive 1 = .ok (.iload_n 1, 1) := by decide +kernel
theorem dX3_isAlive_2 : decode cX3_isAlive 2 = .ok (.invokevirtual 137, 3) := by decide +kernel
theorem dX3_isAlive_5 : decode cX3_isAlive 5 = .ok (.aload_n 0, 1) := by decide +kernel
theorem dX3_isAlive_6 : decode cX3_isAlive 6 = .ok (.getfield 19, 3) := by decide +kernel
theorem dX3_isAlive_9 : decode cX3_isAlive 9 = .ok (.getfield 145, 3) := by decide +kernel
theorem dX3_isAlive_12 : decode cX3_isAlive 12 = .ok (.iload_n 1, 1) := by decide +kernel
theorem dX3_isAlive_13 : decode cX3_isAlive 13 = .ok (.baload, 1) := by decide +kernel
theorem dX3_isAlive_14 : decode cX3_isAlive 14 = .ok (.ireturn, 1) := by decide +kernel
theorem dX3_injected_0 : decode cX3_injected 0 = .ok (.aload_n 0, 1) := by decide +kernel
theorem dX3_injected_1 : decode cX3_injected 1 = .ok (.iload_n 1, 1) := by decide +kernel
theorem dX3_injected_2 : decode cX3_injected 2 = .ok (.invokevirtual 137, 3) := by decide +kernel
theorem dX3_injected_5 : decode cX3_injected 5 = .ok (.aload_n 0, 1) := by decide +kernel
theorem dX3_injected_6 : decode cX3_injected 6 = .ok (.getfield 19, 3) := by decide +kernel
theorem dX3_injected_9 : decode cX3_injected 9 = .ok (.iload_n 1, 1) := by decide +kernel
theorem dX3_injected_10 : decode cX3_injected 10 = .ok (.iload_n 2, 1) := by decide +kernel
theorem dX3_injected_11 : decode cX3_injected 11 = .ok (.invokevirtual 175, 3) := by decide +kernel
theorem dX3_injected_14 : decode cX3_injected 14 = .ok (.ifCond .ne 13, 3) := by decide +kernel
theorem dX3_injected_17 : decode cX3_injected 17 = .ok (.new 50, 3) := by decide +kernel
theorem dX3_injected_20 : decode cX3_injected 20 = .ok (.dup, 1) := by decide +kernel
theorem dX3_injected_21 : decode cX3_injected 21 = .ok (.ldc 178, 2) := by decide +kernel
theorem dX3_injected_23 : decode cX3_injected 23 = .ok (.invokespecial 54, 3) := by decide +kernel
theorem dX3_injected_26 : decode cX3_injected 26 = .ok (.athrow, 1) := by decide +kernel
theorem dX3_injected_27 : decode cX3_injected 27 = .ok (.aload_n 0, 1) := by decide +kernel
theorem dX3_injected_28 : decode cX3_injected 28 = .ok (.getfield 19, 3) := by decide +kernel
theorem dX3_injected_31 : decode cX3_injected 31 = .ok (.getfield 180, 3) := by decide +kernel
theorem dX3_injected_34 : decode cX3_injected 34 = .ok (.iload_n 1, 1) := by decide +kernel
theorem dX3_injected_35 : decode cX3_injected 35 = .ok (.bipush 6, 2) := by decide +kernel
theorem dX3_injected_37 : decode cX3_injected 37 = .ok (.imul, 1) := by decide +kernel
theorem dX3_injected_38 : decode cX3_injected 38 = .ok (.iload_n 2, 1) := by decide +kernel
theorem dX3_injected_39 : decode cX3_injected 39 = .ok (.iadd, 1) := by decide +kernel
theorem dX3_injected_40 : decode cX3_injected 40 = .ok (.iaload, 1) := by decide +kernel
theorem dX3_injected_41 : decode cX3_injected 41 = .ok (.ireturn, 1) := by decide +kernel
theorem dX3_event_0 : decode cX3_event 0 = .ok (.iload_n 1, 1) := by decide +kernel
theorem dX3_event_1 : decode cX3_event 1 = .ok (.iconst (-1), 1) := by decide +kernel
theorem dX3_event_2 : decode cX3_event 2 = .ok (.if_icmp .ne 11, 3) := by decide +kernel
theorem dX3_event_5 : decode cX3_event 5 = .ok (.aload_n 0, 1) := by decide +kernel
theorem dX3_event_6 : decode cX3_event 6 = .ok (.getfield 19, 3) := by decide +kernel
theorem dX3_event_9 : decode cX3_event 9 = .ok (.getfield 183, 3) := by decide +kernel
theorem dX3_event_12 : decode cX3_event 12 = .ok (.ireturn, 1) := by decide +kernel
theorem dX3_event_13 : decode cX3_event 13 = .ok (.iload_n 1, 1) := by decide +kernel
theorem dX3_event_14 : decode cX3_event 14 = .ok (.ifCond .lt 26, 3) := by decide +kernel
theorem dX3_event_17 : decode cX3_event 17 = .ok (.iload_n 1, 1) := by decide +kernel
theorem dX3_event_18 : decode cX3_event 18 = .ok (.aload_n 0, 1) := by decide +kernel
theorem dX3_event_19 : decode cX3_event 19 = .ok (.getfield 19, 3) := by decide +kernel
theorem dX3_event_22 : decode cX3_event 22 = .ok (.getfield 183, 3) := by decide +kernel
theorem dX3_event_25 : decode cX3_event 25 = .ok (.if_icmp .ge 15, 3) := by decide +kernel
theorem dX3_event_28 : decode cX3_event 28 = .ok (.aload_n 0, 1) := by decide +kernel
theorem dX3_event_29 : decode cX3_event 29 = .ok (.getfield 19, 3) := by decide +kernel
theorem dX3_event_32 : decode cX3_event 32 = .ok (.getfield 186, 3) := by decide +kernel
theorem dX3_event_35 : decode cX3_event 35 = .ok (.iload_n 1, 1) := by decide +kernel
theorem dX3_event_36 : decode cX3_event 36 = .ok (.iaload, 1) := by decide +kernel
theorem dX3_event_37 : decode cX3_event 37 = .ok (.goto 4, 3) := by decide +kernel
theorem dX3_event_40 : decode cX3_event 40 = .ok (.iconst (-1), 1) := by decide +kernel
theorem dX3_event_41 : decode cX3_event 41 = .ok (.ireturn, 1) := by decide +kernel
theorem dX3_failureKind_0 : decode cX3_failureKind 0 = .ok (.aload_n 0, 1) := by decide +kernel
theorem dX3_failureKind_1 : decode cX3_failureKind 1 = .ok (.getfield 26, 3) := by decide +kernel
theorem dX3_failureKind_4 : decode cX3_failureKind 4 = .ok (.getfield 189, 3) := by decide +kernel
theorem dX3_failureKind_7 : decode cX3_failureKind 7 = .ok (.ireturn, 1) := by decide +kernel
theorem dX3_failureDetail_0 : decode cX3_failureDetail 0 = .ok (.aload_n 0, 1) := by decide +kernel
theorem dX3_failureDetail_1 : decode cX3_failureDetail 1 = .ok (.getfield 26, 3) := by decide +kernel
theorem dX3_failureDetail_4 : decode cX3_failureDetail 4 = .ok (.getfield 192, 3) := by decide +kernel
theorem dX3_failureDetail_7 : decode cX3_failureDetail 7 = .ok (.ireturn, 1) := by decide +kernel
theorem dX3_failureChain_0 : decode cX3_failureChain 0 = .ok (.iload_n 1, 1) := by decide +kernel
theorem dX3_failureChain_1 : decode cX3_failureChain 1 = .ok (.iconst (-1), 1) := by decide +kernel
theorem dX3_failureChain_2 : decode cX3_failureChain 2 = .ok (.if_icmp .ne 11, 3) := by decide +kernel
theorem dX3_failureChain_5 : decode cX3_failureChain 5 = .ok (.aload_n 0, 1) := by decide +kernel
theorem dX3_failureChain_6 : decode cX3_failureChain 6 = .ok (.getfield 26, 3) := by decide +kernel
theorem dX3_failureChain_9 : decode cX3_failureChain 9 = .ok (.getfield 195, 3) := by decide +kernel
theorem dX3_failureChain_12 : decode cX3_failureChain 12 = .ok (.ireturn, 1) := by decide +kernel
theorem dX3_failureChain_13 : decode cX3_failureChain 13 = .ok (.iload_n 1, 1) := by decide +kernel
theorem dX3_failureChain_14 : decode cX3_failureChain 14 = .ok (.ifCond .lt 26, 3) := by decide +kernel
theorem dX3_failureChain_17 : decode cX3_failureChain 17 = .ok (.iload_n 1, 1) := by decide +kernel
theorem dX3_failureChain_18 : decode cX3_failureChain 18 = .ok (.aload_n 0, 1) := by decide +kernel
theorem dX3_failureChain_19 : decode cX3_failureChain 19 = .ok (.getfield 26, 3) := by decide +kernel
theorem dX3_failureChain_22 : decode cX3_failureChain 22 = .ok (.getfield 195, 3) := by decide +kernel
theorem dX3_failureChain_25 : decode cX3_failureChain 25 = .ok (.if_icmp .ge 15, 3) := by decide +kernel
theorem dX3_failureChain_28 : decode cX3_failureChain 28 = .ok (.aload_n 0, 1) := by decide +kernel
theorem dX3_failureChain_29 : decode cX3_failureChain 29 = .ok (.getfield 26, 3) := by decide +kernel
theorem dX3_failureChain_32 : decode cX3_failureChain 32 = .ok (.getfield 198, 3) := by decide +kernel
theorem dX3_failureChain_35 : decode cX3_failureChain 35 = .ok (.iload_n 1, 1) := by decide +kernel
theorem dX3_failureChain_36 : decode cX3_failureChain 36 = .ok (.iaload, 1) := by decide +kernel
theorem dX3_failureChain_37 : decode cX3_failureChain 37 = .ok (.goto 4, 3) := by decide +kernel
theorem dX3_failureChain_40 : decode cX3_failureChain 40 = .ok (.iconst (-1), 1) := by decide +kernel
theorem dX3_failureChain_41 : decode cX3_failureChain 41 = .ok (.ireturn, 1) := by decide +kernel
theorem dX3_isBetween_0 : decode cX3_isBetween 0 = .ok (.iload_n 0, 1) := by decide +kernel
theorem dX3_isBetween_1 : decode cX3_isBetween 1 = .ok (.iload_n 1, 1) := by decide +kernel
theorem dX3_isBetween_2 : decode cX3_isBetween 2 = .ok (.if_icmp .lt 12, 3) := by decide +kernel
theorem dX3_isBetween_5 : decode cX3_isBetween 5 = .ok (.iload_n 0, 1) := by decide +kernel
theorem dX3_isBetween_6 : decode cX3_isBetween 6 = .ok (.iload_n 2, 1) := by decide +kernel
theorem dX3_isBetween_7 : decode cX3_isBetween 7 = .ok (.if_icmp .gt 7, 3) := by decide +kernel
theorem dX3_isBetween_10 : decode cX3_isBetween 10 = .ok (.iconst 1, 1) := by decide +kernel
theorem dX3_isBetween_11 : decode cX3_isBetween 11 = .ok (.goto 4, 3) := by decide +kernel
theorem dX3_isBetween_14 : decode cX3_isBetween 14 = .ok (.iconst 0, 1) := by decide +kernel
theorem dX3_isBetween_15 : decode cX3_isBetween 15 = .ok (.ireturn, 1) := by decide +kernel
theorem dX3_isPropertyValue_0 : decode cX3_isPropertyValue 0 = .ok (.iload_n 1, 1) := by decide +kernel
theorem dX3_isPropertyValue_1 : decode cX3_isPropertyValue 1 = .ok (.getstatic 199, 3) := by decide +kernel
theorem dX3_isPropertyValue_4 : decode cX3_isPropertyValue 4 = .ok (.iload_n 0, 1) := by decide +kernel
theorem dX3_isPropertyValue_5 : decode cX3_isPropertyValue 5 = .ok (.iaload, 1) := by decide +kernel
theorem dX3_isPropertyValue_6 : decode cX3_isPropertyValue 6 = .ok (.getstatic 202, 3) := by decide +kernel
theorem dX3_isPropertyValue_9 : decode cX3_isPropertyValue 9 = .ok (.iload_n 0, 1) := by decide +kernel
theorem dX3_isPropertyValue_10 : decode cX3_isPropertyValue 10 = .ok (.iaload, 1) := by decide +kernel
theorem dX3_isPropertyValue_11 : decode cX3_isPropertyValue 11 = .ok (.invokestatic 85, 3) := by decide +kernel
theorem dX3_isPropertyValue_14 : decode cX3_isPropertyValue 14 = .ok (.ireturn, 1) := by decide +kernel
theorem dX3_requireComponent_0 : decode cX3_requireComponent 0 = .ok (.iload_n 1, 1) := by decide +kernel
theorem dX3_requireComponent_1 : decode cX3_requireComponent 1 = .ok (.ifCond .lt 14, 3) := by decide +kernel
theorem dX3_requireComponent_4 : decode cX3_requireComponent 4 = .ok (.iload_n 1, 1) := by decide +kernel
theorem dX3_requireComponent_5 : decode cX3_requireComponent 5 = .ok (.aload_n 0, 1) := by decide +kernel
theorem dX3_requireComponent_6 : decode cX3_requireComponent 6 = .ok (.getfield 10, 3) := by decide +kernel
theorem dX3_requireComponent_9 : decode cX3_requireComponent 9 = .ok (.getfield 57, 3) := by decide +kernel
theorem dX3_requireComponent_12 : decode cX3_requireComponent 12 = .ok (.if_icmp .lt 13, 3) := by decide +kernel
theorem dX3_requireComponent_15 : decode cX3_requireComponent 15 = .ok (.new 205, 3) := by decide +kernel
theorem dX3_requireComponent_18 : decode cX3_requireComponent 18 = .ok (.dup, 1) := by decide +kernel
theorem dX3_requireComponent_19 : decode cX3_requireComponent 19 = .ok (.ldc 207, 2) := by decide +kernel
theorem dX3_requireComponent_21 : decode cX3_requireComponent 21 = .ok (.invokespecial 209, 3) := by decide +kernel
theorem dX3_requireComponent_24 : decode cX3_requireComponent 24 = .ok (.athrow, 1) := by decide +kernel
theorem dX3_requireComponent_25 : decode cX3_requireComponent 25 = .ok (.return_, 1) := by decide +kernel
theorem dX3_requireInstance_0 : decode cX3_requireInstance 0 = .ok (.iload_n 1, 1) := by decide +kernel
theorem dX3_requireInstance_1 : decode cX3_requireInstance 1 = .ok (.ifCond .lt 14, 3) := by decide +kernel
theorem dX3_requireInstance_4 : decode cX3_requireInstance 4 = .ok (.iload_n 1, 1) := by decide +kernel
theorem dX3_requireInstance_5 : decode cX3_requireInstance 5 = .ok (.aload_n 0, 1) := by decide +kernel
theorem dX3_requireInstance_6 : decode cX3_requireInstance 6 = .ok (.getfield 19, 3) := by decide +kernel
theorem dX3_requireInstance_9 : decode cX3_requireInstance 9 = .ok (.getfield 151, 3) := by decide +kernel
theorem dX3_requireInstance_12 : decode cX3_requireInstance 12 = .ok (.if_icmp .lt 13, 3) := by decide +kernel
theorem dX3_requireInstance_15 : decode cX3_requireInstance 15 = .ok (.new 205, 3) := by decide +kernel
theorem dX3_requireInstance_18 : decode cX3_requireInstance 18 = .ok (.dup, 1) := by decide +kernel
theorem dX3_requireInstance_19 : decode cX3_requireInstance 19 = .ok (.ldc 210, 2) := by decide +kernel
theorem dX3_requireInstance_21 : decode cX3_requireInstance 21 = .ok (.invokespecial 209, 3) := by decide +kernel
theorem dX3_requireInstance_24 : decode cX3_requireInstance 24 = .ok (.athrow, 1) := by decide +kernel
theorem dX3_requireInstance_25 : decode cX3_requireInstance 25 = .ok (.return_, 1) := by decide +kernel
theorem dX3_requireProperty_0 : decode cX3_requireProperty 0 = .ok (.iload_n 1, 1) := by decide +kernel
theorem dX3_requireProperty_1 : decode cX3_requireProperty 1 = .ok (.iconst 0, 1) := by decide +kernel
theorem dX3_requireProperty_2 : decode cX3_requireProperty 2 = .ok (.bipush 6, 2) := by decide +kernel
theorem dX3_requireProperty_4 : decode cX3_requireProperty 4 = .ok (.invokestatic 85, 3) := by decide +kernel
theorem dX3_requireProperty_7 : decode cX3_requireProperty 7 = .ok (.ifCond .ne 13, 3) := by decide +kernel
theorem dX3_requireProperty_10 : decode cX3_requireProperty 10 = .ok (.new 50, 3) := by decide +kernel
theorem dX3_requireProperty_13 : decode cX3_requireProperty 13 = .ok (.dup, 1) := by decide +kernel
theorem dX3_requireProperty_14 : decode cX3_requireProperty 14 = .ok (.ldc 212, 2) := by decide +kernel
theorem dX3_requireProperty_16 : decode cX3_requireProperty 16 = .ok (.invokespecial 54, 3) := by decide +kernel
theorem dX3_requireProperty_19 : decode cX3_requireProperty 19 = .ok (.athrow, 1) := by decide +kernel
theorem dX3_requireProperty_20 : decode cX3_requireProperty 20 = .ok (.return_, 1) := by decide +kernel
theorem dX3_requireTypeAndQualifier_0 : decode cX3_requireTypeAndQualifier 0 = .ok (.iload_n 1, 1) := by decide +kernel
theorem dX3_requireTypeAndQualifier_1 : decode cX3_requireTypeAndQualifier 1 = .ok (.iconst 0, 1) := by decide +kernel
theorem dX3_requireTypeAndQualifier_2 : decode cX3_requireTypeAndQualifier 2 = .ok (.bipush 15, 2) := by decide +kernel
theorem dX3_requireTypeAndQualifier_4 : decode cX3_requireTypeAndQualifier 4 = .ok (.invokestatic 85, 3) := by decide +kernel
theorem dX3_requireTypeAndQualifier_7 : decode cX3_requireTypeAndQualifier 7 = .ok (.ifCond .eq 13, 3) := by decide +kernel
theorem dX3_requireTypeAndQualifier_10 : decode cX3_requireTypeAndQualifier 10 = .ok (.iload_n 2, 1) := by decide +kernel
theorem dX3_requireTypeAndQualifier_11 : decode cX3_requireTypeAndQualifier 11 = .ok (.iconst (-1), 1) := by decide +kernel
theorem dX3_requireTypeAndQualifier_12 : decode cX3_requireTypeAndQualifier 12 = .ok (.bipush 9, 2) := by decide +kernel
theorem dX3_requireTypeAndQualifier_14 : decode cX3_requireTypeAndQualifier 14 = .ok (.invokestatic 85, 3) := by decide +kernel
theorem dX3_requireTypeAndQualifier_17 : decode cX3_requireTypeAndQualifier 17 = .ok (.ifCond .ne 13, 3) := by decide +kernel
theorem dX3_requireTypeAndQualifier_20 : decode cX3_requireTypeAndQualifier 20 = .ok (.new 50, 3) := by decide +kernel
theorem dX3_requireTypeAndQualifier_23 : decode cX3_requireTypeAndQualifier 23 = .ok (.dup, 1) := by decide +kernel
theorem dX3_requireTypeAndQualifier_24 : decode cX3_requireTypeAndQualifier 24 = .ok (.ldc 214, 2) := by decide +kernel
theorem dX3_requireTypeAndQualifier_26 : decode cX3_requireTypeAndQualifier 26 = .ok (.invokespecial 54, 3) := by decide +kernel
theorem dX3_requireTypeAndQualifier_29 : decode cX3_requireTypeAndQualifier 29 = .ok (.athrow, 1) := by decide +kernel
theorem dX3_requireTypeAndQualifier_30 : decode cX3_requireTypeAndQualifier 30 = .ok (.return_, 1) := by decide +kernel
theorem dX3_tryConstruction_0 : decode cX3_tryConstruction 0 = .ok (.iconst 1, 1) := by decide +kernel
theorem dX3_tryConstruction_1 : decode cX3_tryConstruction 1 = .ok (.iload_n 1, 1) := by decide +kernel
theorem dX3_tryConstruction_2 : decode cX3_tryConstruction 2 = .ok (.ishl, 1) := by decide +kernel
theorem dX3_tryConstruction_3 : decode cX3_tryConstruction 3 = .ok (.istore_n 3, 1) := by decide +kernel
theorem dX3_tryConstruction_4 : decode cX3_tryConstruction 4 = .ok (.iload_n 2, 1) := by decide +kernel
theorem dX3_tryConstruction_5 : decode cX3_tryConstruction 5 = .ok (.iload_n 3, 1) := by decide +kernel
theorem dX3_tryConstruction_6 : decode cX3_tryConstruction 6 = .ok (.iand, 1) := by decide +kernel
theorem dX3_tryConstruction_7 : decode cX3_tryConstruction 7 = .ok (.ifCond .eq 5, 3) := by decide +kernel
theorem dX3_tryConstruction_10 : decode cX3_tryConstruction 10 = .ok (.iconst 3, 1) := by decide +kernel
theorem dX3_tryConstruction_11 : decode cX3_tryConstruction 11 = .ok (.ireturn, 1) := by decide +kernel
theorem dX3_tryConstruction_12 : decode cX3_tryConstruction 12 = .ok (.aload_n 0, 1) := by decide +kernel
theorem dX3_tryConstruction_13 : decode cX3_tryConstruction 13 = .ok (.getfield 43, 3) := by decide +kernel
theorem dX3_tryConstruction_16 : decode cX3_tryConstruction 16 = .ok (.iload_n 3, 1) := by decide +kernel
theorem dX3_tryConstruction_17 : decode cX3_tryConstruction 17 = .ok (.iand, 1) := by decide +kernel
theorem dX3_tryConstruction_18 : decode cX3_tryConstruction 18 = .ok (.ifCond .eq 5, 3) := by decide +kernel
theorem dX3_tryConstruction_21 : decode cX3_tryConstruction 21 = .ok (.iconst 0, 1) := by decide +kernel
theorem dX3_tryConstruction_22 : decode cX3_tryConstruction 22 = .ok (.ireturn, 1) := by decide +kernel
theorem dX3_tryConstruction_23 : decode cX3_tryConstruction 23 = .ok (.iconst 0, 1) := by decide +kernel
theorem dX3_tryConstruction_24 : decode cX3_tryConstruction 24 = .ok (.istore 4, 2) := by decide +kernel
theorem dX3_tryConstruction_26 : decode cX3_tryConstruction 26 = .ok (.iload 4, 2) := by decide +kernel
theorem dX3_tryConstruction_28 : decode cX3_tryConstruction 28 = .ok (.aload_n 0, 1) := by decide +kernel
theorem dX3_tryConstruction_29 : decode cX3_tryConstruction 29 = .ok (.getfield 10, 3) := by decide +kernel
theorem dX3_tryConstruction_32 : decode cX3_tryConstruction 32 = .ok (.getfield 91, 3) := by decide +kernel
theorem dX3_tryConstruction_35 : decode cX3_tryConstruction 35 = .ok (.iload_n 1, 1) := by decide +kernel
theorem dX3_tryConstruction_36 : decode cX3_tryConstruction 36 = .ok (.iaload, 1) := by decide +kernel
theorem dX3_tryConstruction_37 : decode cX3_tryConstruction 37 = .ok (.if_icmp .ge 29, 3) := by decide +kernel
theorem dX3_tryConstruction_40 : decode cX3_tryConstruction 40 = .ok (.aload_n 0, 1) := by decide +kernel
theorem dX3_tryConstruction_41 : decode cX3_tryConstruction 41 = .ok (.iload_n 1, 1) := by decide +kernel
theorem dX3_tryConstruction_42 : decode cX3_tryConstruction 42 = .ok (.iload 4, 2) := by decide +kernel
theorem dX3_tryConstruction_44 : decode cX3_tryConstruction 44 = .ok (.iload_n 2, 1) := by decide +kernel
theorem dX3_tryConstruction_45 : decode cX3_tryConstruction 45 = .ok (.iload_n 3, 1) := by decide +kernel
theorem dX3_tryConstruction_46 : decode cX3_tryConstruction 46 = .ok (.ior, 1) := by decide +kernel
theorem dX3_tryConstruction_47 : decode cX3_tryConstruction 47 = .ok (.invokevirtual 216, 3) := by decide +kernel
theorem dX3_tryConstruction_50 : decode cX3_tryConstruction 50 = .ok (.istore 5, 2) := by decide +kernel
theorem dX3_tryConstruction_52 : decode cX3_tryConstruction 52 = .ok (.iload 5, 2) := by decide +kernel
theorem dX3_tryConstruction_54 : decode cX3_tryConstruction 54 = .ok (.ifCond .eq 6, 3) := by decide +kernel
theorem dX3_tryConstruction_57 : decode cX3_tryConstruction 57 = .ok (.iload 5, 2) := by decide +kernel
theorem dX3_tryConstruction_59 : decode cX3_tryConstruction 59 = .ok (.ireturn, 1) := by decide +kernel
theorem dX3_tryConstruction_60 : decode cX3_tryConstruction 60 = .ok (.iinc 4 1, 3) := by decide +kernel
theorem dX3_tryConstruction_63 : decode cX3_tryConstruction 63 = .ok (.goto (-37), 3) := by decide +kernel
theorem dX3_tryConstruction_66 : decode cX3_tryConstruction 66 = .ok (.aload_n 0, 1) := by decide +kernel
theorem dX3_tryConstruction_67 : decode cX3_tryConstruction 67 = .ok (.dup, 1) := by decide +kernel
theorem dX3_tryConstruction_68 : decode cX3_tryConstruction 68 = .ok (.getfield 43, 3) := by decide +kernel
theorem dX3_tryConstruction_71 : decode cX3_tryConstruction 71 = .ok (.iload_n 3, 1) := by decide +kernel
theorem dX3_tryConstruction_72 : decode cX3_tryConstruction 72 = .ok (.ior, 1) := by decide +kernel
theorem dX3_tryConstruction_73 : decode cX3_tryConstruction 73 = .ok (.putfield 43, 3) := by decide +kernel
theorem dX3_tryConstruction_76 : decode cX3_tryConstruction 76 = .ok (.iconst 0, 1) := by decide +kernel
theorem dX3_tryConstruction_77 : decode cX3_tryConstruction 77 = .ok (.ireturn, 1) := by decide +kernel
theorem dX3_tryDependency_0 : decode cX3_tryDependency 0 = .ok (.aload_n 0, 1) := by decide +kernel
theorem dX3_tryDependency_1 : decode cX3_tryDependency 1 = .ok (.getfield 10, 3) := by decide +kernel
theorem dX3_tryDependency_4 : decode cX3_tryDependency 4 = .ok (.iload_n 1, 1) := by decide +kernel
theorem dX3_tryDependency_5 : decode cX3_tryDependency 5 = .ok (.iload_n 2, 1) := by decide +kernel
theorem dX3_tryDependency_6 : decode cX3_tryDependency 6 = .ok (.iconst 2, 1) := by decide +kernel
theorem dX3_tryDependency_7 : decode cX3_tryDependency 7 = .ok (.invokevirtual 105, 3) := by decide +kernel
theorem dX3_tryDependency_10 : decode cX3_tryDependency 10 = .ok (.istore 4, 2) := by decide +kernel
theorem dX3_tryDependency_12 : decode cX3_tryDependency 12 = .ok (.iload 4, 2) := by decide +kernel
theorem dX3_tryDependency_14 : decode cX3_tryDependency 14 = .ok (.iconst 3, 1) := by decide +kernel
theorem dX3_tryDependency_15 : decode cX3_tryDependency 15 = .ok (.if_icmp .ne 5, 3) := by decide +kernel
theorem dX3_tryDependency_18 : decode cX3_tryDependency 18 = .ok (.iconst 0, 1) := by decide +kernel
theorem dX3_tryDependency_19 : decode cX3_tryDependency 19 = .ok (.ireturn, 1) := by decide +kernel
theorem dX3_tryDependency_20 : decode cX3_tryDependency 20 = .ok (.aload_n 0, 1) := by decide +kernel
theorem dX3_tryDependency_21 : decode cX3_tryDependency 21 = .ok (.getfield 10, 3) := by decide +kernel
theorem dX3_tryDependency_24 : decode cX3_tryDependency 24 = .ok (.iload_n 1, 1) := by decide +kernel
theorem dX3_tryDependency_25 : decode cX3_tryDependency 25 = .ok (.iload_n 2, 1) := by decide +kernel
theorem dX3_tryDependency_26 : decode cX3_tryDependency 26 = .ok (.invokevirtual 219, 3) := by decide +kernel
theorem dX3_tryDependency_29 : decode cX3_tryDependency 29 = .ok (.istore 5, 2) := by decide +kernel
theorem dX3_tryDependency_31 : decode cX3_tryDependency 31 = .ok (.iload 4, 2) := by decide +kernel
theorem dX3_tryDependency_33 : decode cX3_tryDependency 33 = .ok (.iconst 2, 1) := by decide +kernel
theorem dX3_tryDependency_34 : decode cX3_tryDependency 34 = .ok (.if_icmp .ne 11, 3) := by decide +kernel
theorem dX3_tryDependency_37 : decode cX3_tryDependency 37 = .ok (.aload_n 0, 1) := by decide +kernel
theorem dX3_tryDependency_38 : decode cX3_tryDependency 38 = .ok (.iload 5, 2) := by decide +kernel
theorem dX3_tryDependency_40 : decode cX3_tryDependency 40 = .ok (.iload_n 3, 1) := by decide +kernel
theorem dX3_tryDependency_41 : decode cX3_tryDependency 41 = .ok (.invokevirtual 222, 3) := by decide +kernel
theorem dX3_tryDependency_44 : decode cX3_tryDependency 44 = .ok (.ireturn, 1) := by decide +kernel
theorem dX3_tryDependency_45 : decode cX3_tryDependency 45 = .ok (.iload 5, 2) := by decide +kernel
theorem dX3_tryDependency_47 : decode cX3_tryDependency 47 = .ok (.ifCond .ne 15, 3) := by decide +kernel
theorem dX3_tryDependency_50 : decode cX3_tryDependency 50 = .ok (.iload 4, 2) := by decide +kernel
theorem dX3_tryDependency_52 : decode cX3_tryDependency 52 = .ok (.iconst 1, 1) := by decide +kernel
theorem dX3_tryDependency_53 : decode cX3_tryDependency 53 = .ok (.if_icmp .ne 7, 3) := by decide +kernel
theorem dX3_tryDependency_56 : decode cX3_tryDependency 56 = .ok (.iconst 0, 1) := by decide +kernel
theorem dX3_tryDependency_57 : decode cX3_tryDependency 57 = .ok (.goto 4, 3) := by decide +kernel
theorem dX3_tryDependency_60 : decode cX3_tryDependency 60 = .ok (.iconst 1, 1) := by decide +kernel
theorem dX3_tryDependency_61 : decode cX3_tryDependency 61 = .ok (.ireturn, 1) := by decide +kernel
theorem dX3_tryDependency_62 : decode cX3_tryDependency 62 = .ok (.aload_n 0, 1) := by decide +kernel
theorem dX3_tryDependency_63 : decode cX3_tryDependency 63 = .ok (.getfield 10, 3) := by decide +kernel
theorem dX3_tryDependency_66 : decode cX3_tryDependency 66 = .ok (.iload 5, 2) := by decide +kernel
theorem dX3_tryDependency_68 : decode cX3_tryDependency 68 = .ok (.invokevirtual 124, 3) := by decide +kernel
theorem dX3_tryDependency_71 : decode cX3_tryDependency 71 = .ok (.istore 6, 2) := by decide +kernel
theorem dX3_tryDependency_73 : decode cX3_tryDependency 73 = .ok (.iload 6, 2) := by decide +kernel
theorem dX3_tryDependency_75 : decode cX3_tryDependency 75 = .ok (.iconst (-1), 1) := by decide +kernel
theorem dX3_tryDependency_76 : decode cX3_tryDependency 76 = .ok (.if_icmp .ne 7, 3) := by decide +kernel
theorem dX3_tryDependency_79 : decode cX3_tryDependency 79 = .ok (.iconst 2, 1) := by decide +kernel
theorem dX3_tryDependency_80 : decode cX3_tryDependency 80 = .ok (.goto 10, 3) := by decide +kernel
theorem dX3_tryDependency_83 : decode cX3_tryDependency 83 = .ok (.aload_n 0, 1) := by decide +kernel
theorem dX3_tryDependency_84 : decode cX3_tryDependency 84 = .ok (.iload 6, 2) := by decide +kernel
theorem dX3_tryDependency_86 : decode cX3_tryDependency 86 = .ok (.iload_n 3, 1) := by decide +kernel
theorem dX3_tryDependency_87 : decode cX3_tryDependency 87 = .ok (.invokevirtual 128, 3) := by decide +kernel
theorem dX3_tryDependency_90 : decode cX3_tryDependency 90 = .ok (.ireturn, 1) := by decide +kernel
theorem dX3_tryEach_0 : decode cX3_tryEach 0 = .ok (.iconst 0, 1) := by decide +kernel
theorem dX3_tryEach_1 : decode cX3_tryEach 1 = .ok (.istore_n 3, 1) := by decide +kernel
theorem dX3_tryEach_2 : decode cX3_tryEach 2 = .ok (.iload_n 3, 1) := by decide +kernel
theorem dX3_tryEach_3 : decode cX3_tryEach 3 = .ok (.aload_n 0, 1) := by decide +kernel
theorem dX3_tryEach_4 : decode cX3_tryEach 4 = .ok (.getfield 10, 3) := by decide +kernel
theorem dX3_tryEach_7 : decode cX3_tryEach 7 = .ok (.getfield 57, 3) := by decide +kernel
theorem dX3_tryEach_10 : decode cX3_tryEach 10 = .ok (.if_icmp .ge 33, 3) := by decide +kernel
theorem dX3_tryEach_13 : decode cX3_tryEach 13 = .ok (.iload_n 1, 1) := by decide +kernel
theorem dX3_tryEach_14 : decode cX3_tryEach 14 = .ok (.iload_n 3, 1) := by decide +kernel
theorem dX3_tryEach_15 : decode cX3_tryEach 15 = .ok (.invokestatic 114, 3) := by decide +kernel
theorem dX3_tryEach_18 : decode cX3_tryEach 18 = .ok (.ifCond .eq 19, 3) := by decide +kernel
theorem dX3_tryEach_21 : decode cX3_tryEach 21 = .ok (.aload_n 0, 1) := by decide +kernel
theorem dX3_tryEach_22 : decode cX3_tryEach 22 = .ok (.iload_n 3, 1) := by decide +kernel
theorem dX3_tryEach_23 : decode cX3_tryEach 23 = .ok (.iload_n 2, 1) := by decide +kernel
theorem dX3_tryEach_24 : decode cX3_tryEach 24 = .ok (.invokevirtual 128, 3) := by decide +kernel
theorem dX3_tryEach_27 : decode cX3_tryEach 27 = .ok (.istore 4, 2) := by decide +kernel
theorem dX3_tryEach_29 : decode cX3_tryEach 29 = .ok (.iload 4, 2) := by decide +kernel
theorem dX3_tryEach_31 : decode cX3_tryEach 31 = .ok (.ifCond .eq 6, 3) := by decide +kernel
theorem dX3_tryEach_34 : decode cX3_tryEach 34 = .ok (.iload 4, 2) := by decide +kernel
theorem dX3_tryEach_36 : decode cX3_tryEach 36 = .ok (.ireturn, 1) := by decide +kernel
theorem dX3_tryEach_37 : decode cX3_tryEach 37 = .ok (.iinc 3 1, 3) := by decide +kernel
theorem dX3_tryEach_40 : decode cX3_tryEach 40 = .ok (.goto (-38), 3) := by decide +kernel
theorem dX3_tryEach_43 : decode cX3_tryEach 43 = .ok (.iconst 0, 1) := by decide +kernel
theorem dX3_tryEach_44 : decode cX3_tryEach 44 = .ok (.ireturn, 1) := by decide +kernel
theorem dX3_requestOrThrow_0 : decode cX3_requestOrThrow 0 = .ok (.aload_n 0, 1) := by decide +kernel
theorem dX3_requestOrThrow_1 : decode cX3_requestOrThrow 1 = .ok (.getfield 19, 3) := by decide +kernel
theorem dX3_requestOrThrow_4 : decode cX3_requestOrThrow 4 = .ok (.getfield 151, 3) := by decide +kernel
theorem dX3_requestOrThrow_7 : decode cX3_requestOrThrow 7 = .ok (.istore_n 3, 1) := by decide +kernel
theorem dX3_requestOrThrow_8 : decode cX3_requestOrThrow 8 = .ok (.aload_n 0, 1) := by decide +kernel
theorem dX3_requestOrThrow_9 : decode cX3_requestOrThrow 9 = .ok (.iload_n 1, 1) := by decide +kernel
theorem dX3_requestOrThrow_10 : decode cX3_requestOrThrow 10 = .ok (.iload_n 2, 1) := by decide +kernel
theorem dX3_requestOrThrow_11 : decode cX3_requestOrThrow 11 = .ok (.iconst 0, 1) := by decide +kernel
theorem dX3_requestOrThrow_12 : decode cX3_requestOrThrow 12 = .ok (.invokevirtual 225, 3) := by decide +kernel
theorem dX3_requestOrThrow_15 : decode cX3_requestOrThrow 15 = .ok (.istore 4, 2) := by decide +kernel
theorem dX3_requestOrThrow_17 : decode cX3_requestOrThrow 17 = .ok (.iload 4, 2) := by decide +kernel
theorem dX3_requestOrThrow_19 : decode cX3_requestOrThrow 19 = .ok (.bipush (-2), 2) := by decide +kernel
theorem dX3_requestOrThrow_21 : decode cX3_requestOrThrow 21 = .ok (.if_icmp .ne 21, 3) := by decide +kernel
theorem dX3_requestOrThrow_24 : decode cX3_requestOrThrow 24 = .ok (.aload_n 0, 1) := by decide +kernel
theorem dX3_requestOrThrow_25 : decode cX3_requestOrThrow 25 = .ok (.getfield 19, 3) := by decide +kernel
theorem dX3_requestOrThrow_28 : decode cX3_requestOrThrow 28 = .ok (.iload_n 3, 1) := by decide +kernel
theorem dX3_requestOrThrow_29 : decode cX3_requestOrThrow 29 = .ok (.invokevirtual 159, 3) := by decide +kernel
theorem dX3_requestOrThrow_32 : decode cX3_requestOrThrow 32 = .ok (.new 60, 3) := by decide +kernel
theorem dX3_requestOrThrow_35 : decode cX3_requestOrThrow 35 = .ok (.dup, 1) := by decide +kernel
theorem dX3_requestOrThrow_36 : decode cX3_requestOrThrow 36 = .ok (.ldc 228, 2) := by decide +kernel
theorem dX3_requestOrThrow_38 : decode cX3_requestOrThrow 38 = .ok (.invokespecial 64, 3) := by decide +kernel
theorem dX3_requestOrThrow_41 : decode cX3_requestOrThrow 41 = .ok (.athrow, 1) := by decide +kernel
theorem dX3_requestOrThrow_42 : decode cX3_requestOrThrow 42 = .ok (.iload 4, 2) := by decide +kernel
theorem dX3_requestOrThrow_44 : decode cX3_requestOrThrow 44 = .ok (.ireturn, 1) := by decide +kernel
theorem dX3_request_0 : decode cX3_request 0 = .ok (.aload_n 0, 1) := by decide +kernel
theorem dX3_request_1 : decode cX3_request 1 = .ok (.getfield 10, 3) := by decide +kernel
theorem dX3_request_4 : decode cX3_request 4 = .ok (.iload_n 1, 1) := by decide +kernel
theorem dX3_request_5 : decode cX3_request 5 = .ok (.iload_n 2, 1) := by decide +kernel
theorem dX3_request_6 : decode cX3_request 6 = .ok (.invokevirtual 121, 3) := by decide +kernel
theorem dX3_request_9 : decode cX3_request 9 = .ok (.istore 4, 2) := by decide +kernel
theorem dX3_request_11 : decode cX3_request 11 = .ok (.iload 4, 2) := by decide +kernel
theorem dX3_request_13 : decode cX3_request 13 = .ok (.ifCond .ne 11, 3) := by decide +kernel
theorem dX3_request_16 : decode cX3_request 16 = .ok (.aload_n 0, 1) := by decide +kernel
theorem dX3_request_17 : decode cX3_request 17 = .ok (.iconst 1, 1) := by decide +kernel
theorem dX3_request_18 : decode cX3_request 18 = .ok (.iload_n 1, 1) := by decide +kernel
theorem dX3_request_19 : decode cX3_request 19 = .ok (.iload_n 3, 1) := by decide +kernel
theorem dX3_request_20 : decode cX3_request 20 = .ok (.invokevirtual 230, 3) := by decide +kernel
theorem dX3_request_23 : decode cX3_request 23 = .ok (.ireturn, 1) := by decide +kernel
theorem dX3_request_24 : decode cX3_request 24 = .ok (.aload_n 0, 1) := by decide +kernel
theorem dX3_request_25 : decode cX3_request 25 = .ok (.getfield 10, 3) := by decide +kernel
theorem dX3_request_28 : decode cX3_request 28 = .ok (.iload 4, 2) := by decide +kernel
theorem dX3_request_30 : decode cX3_request 30 = .ok (.invokevirtual 124, 3) := by decide +kernel
theorem dX3_request_33 : decode cX3_request 33 = .ok (.istore 5, 2) := by decide +kernel
theorem dX3_request_35 : decode cX3_request 35 = .ok (.iload 5, 2) := by decide +kernel
theorem dX3_request_37 : decode cX3_request 37 = .ok (.iconst (-1), 1) := by decide +kernel
theorem dX3_request_38 : decode cX3_request 38 = .ok (.if_icmp .ne 13, 3) := by decide +kernel
theorem dX3_request_41 : decode cX3_request 41 = .ok (.aload_n 0, 1) := by decide +kernel
theorem dX3_request_42 : decode cX3_request 42 = .ok (.iconst 2, 1) := by decide +kernel
theorem dX3_request_43 : decode cX3_request 43 = .ok (.iload_n 1, 1) := by decide +kernel
theorem dX3_request_44 : decode cX3_request 44 = .ok (.iload_n 3, 1) := by decide +kernel
theorem dX3_request_45 : decode cX3_request 45 = .ok (.invokevirtual 230, 3) := by decide +kernel
theorem dX3_request_48 : decode cX3_request 48 = .ok (.goto 10, 3) := by decide +kernel
theorem dX3_request_51 : decode cX3_request 51 = .ok (.aload_n 0, 1) := by decide +kernel
theorem dX3_request_52 : decode cX3_request 52 = .ok (.iload 5, 2) := by decide +kernel
theorem dX3_request_54 : decode cX3_request 54 = .ok (.iload_n 3, 1) := by decide +kernel
theorem dX3_request_55 : decode cX3_request 55 = .ok (.invokevirtual 156, 3) := by decide +kernel
theorem dX3_request_58 : decode cX3_request 58 = .ok (.ireturn, 1) := by decide +kernel
theorem dX3_obtain_0 : decode cX3_obtain 0 = .ok (.aload_n 0, 1) := by decide +kernel
theorem dX3_obtain_1 : decode cX3_obtain 1 = .ok (.getfield 10, 3) := by decide +kernel
theorem dX3_obtain_4 : decode cX3_obtain 4 = .ok (.getfield 78, 3) := by decide +kernel
theorem dX3_obtain_7 : decode cX3_obtain 7 = .ok (.iload_n 1, 1) := by decide +kernel
theorem dX3_obtain_8 : decode cX3_obtain 8 = .ok (.aaload, 1) := by decide +kernel
theorem dX3_obtain_9 : decode cX3_obtain 9 = .ok (.iconst 1, 1) := by decide +kernel
theorem dX3_obtain_10 : decode cX3_obtain 10 = .ok (.iaload, 1) := by decide +kernel
theorem dX3_obtain_11 : decode cX3_obtain 11 = .ok (.istore_n 3, 1) := by decide +kernel
theorem dX3_obtain_12 : decode cX3_obtain 12 = .ok (.iload_n 3, 1) := by decide +kernel
theorem dX3_obtain_13 : decode cX3_obtain 13 = .ok (.iconst 1, 1) := by decide +kernel
theorem dX3_obtain_14 : decode cX3_obtain 14 = .ok (.if_icmp .ne 11, 3) := by decide +kernel
theorem dX3_obtain_17 : decode cX3_obtain 17 = .ok (.aload_n 0, 1) := by decide +kernel
theorem dX3_obtain_18 : decode cX3_obtain 18 = .ok (.iload_n 1, 1) := by decide +kernel
theorem dX3_obtain_19 : decode cX3_obtain 19 = .ok (.iconst (-1), 1) := by decide +kernel
theorem dX3_obtain_20 : decode cX3_obtain 20 = .ok (.iload_n 2, 1) := by decide +kernel
theorem dX3_obtain_21 : decode cX3_obtain 21 = .ok (.invokevirtual 233, 3) := by decide +kernel
theorem dX3_obtain_24 : decode cX3_obtain 24 = .ok (.ireturn, 1) := by decide +kernel
theorem dX3_obtain_25 : decode cX3_obtain 25 = .ok (.iload_n 3, 1) := by decide +kernel
theorem dX3_obtain_26 : decode cX3_obtain 26 = .ok (.iconst 2, 1) := by decide +kernel
theorem dX3_obtain_27 : decode cX3_obtain 27 = .ok (.if_icmp .ne 18, 3) := by decide +kernel
theorem dX3_obtain_30 : decode cX3_obtain 30 = .ok (.aload_n 0, 1) := by decide +kernel
theorem dX3_obtain_31 : decode cX3_obtain 31 = .ok (.getfield 30, 3) := by decide +kernel
theorem dX3_obtain_34 : decode cX3_obtain 34 = .ok (.ifCond .ne 11, 3) := by decide +kernel
theorem dX3_obtain_37 : decode cX3_obtain 37 = .ok (.aload_n 0, 1) := by decide +kernel
theorem dX3_obtain_38 : decode cX3_obtain 38 = .ok (.iconst 4, 1) := by decide +kernel
theorem dX3_obtain_39 : decode cX3_obtain 39 = .ok (.iload_n 1, 1) := by decide +kernel
theorem dX3_obtain_40 : decode cX3_obtain 40 = .ok (.iload_n 2, 1) := by decide +kernel
theorem dX3_obtain_41 : decode cX3_obtain 41 = .ok (.invokevirtual 230, 3) := by decide +kernel
theorem dX3_obtain_44 : decode cX3_obtain 44 = .ok (.ireturn, 1) := by decide +kernel
theorem dX3_obtain_45 : decode cX3_obtain 45 = .ok (.iload_n 3, 1) := by decide +kernel
theorem dX3_obtain_46 : decode cX3_obtain 46 = .ok (.ifCond .ne 7, 3) := by decide +kernel
theorem dX3_obtain_49 : decode cX3_obtain 49 = .ok (.iconst 0, 1) := by decide +kernel
theorem dX3_obtain_50 : decode cX3_obtain 50 = .ok (.goto 7, 3) := by decide +kernel
theorem dX3_obtain_53 : decode cX3_obtain 53 = .ok (.aload_n 0, 1) := by decide +kernel
theorem dX3_obtain_54 : decode cX3_obtain 54 = .ok (.getfield 30, 3) := by decide +kernel
theorem dX3_obtain_57 : decode cX3_obtain 57 = .ok (.istore 4, 2) := by decide +kernel
theorem dX3_obtain_59 : decode cX3_obtain 59 = .ok (.aload_n 0, 1) := by decide +kernel
theorem dX3_obtain_60 : decode cX3_obtain 60 = .ok (.getfield 19, 3) := by decide +kernel
theorem dX3_obtain_63 : decode cX3_obtain 63 = .ok (.getfield 236, 3) := by decide +kernel
theorem dX3_obtain_66 : decode cX3_obtain 66 = .ok (.iload 4, 2) := by decide +kernel
theorem dX3_obtain_68 : decode cX3_obtain 68 = .ok (.aaload, 1) := by decide +kernel
theorem dX3_obtain_69 : decode cX3_obtain 69 = .ok (.iload_n 1, 1) := by decide +kernel
theorem dX3_obtain_70 : decode cX3_obtain 70 = .ok (.iaload, 1) := by decide +kernel
theorem dX3_obtain_71 : decode cX3_obtain 71 = .ok (.istore 5, 2) := by decide +kernel
theorem dX3_obtain_73 : decode cX3_obtain 73 = .ok (.iload 5, 2) := by decide +kernel
theorem dX3_obtain_75 : decode cX3_obtain 75 = .ok (.iconst (-1), 1) := by decide +kernel
theorem dX3_obtain_76 : decode cX3_obtain 76 = .ok (.if_icmp .ne 14, 3) := by decide +kernel
theorem dX3_obtain_79 : decode cX3_obtain 79 = .ok (.aload_n 0, 1) := by decide +kernel
theorem dX3_obtain_80 : decode cX3_obtain 80 = .ok (.iload_n 1, 1) := by decide +kernel
theorem dX3_obtain_81 : decode cX3_obtain 81 = .ok (.iload 4, 2) := by decide +kernel
theorem dX3_obtain_83 : decode cX3_obtain 83 = .ok (.iload_n 2, 1) := by decide +kernel
theorem dX3_obtain_84 : decode cX3_obtain 84 = .ok (.invokevirtual 233, 3) := by decide +kernel
theorem dX3_obtain_87 : decode cX3_obtain 87 = .ok (.goto 5, 3) := by decide +kernel
theorem dX3_obtain_90 : decode cX3_obtain 90 = .ok (.iload 5, 2) := by decide +kernel
theorem dX3_obtain_92 : decode cX3_obtain 92 = .ok (.ireturn, 1) := by decide +kernel
theorem dX3_construct_0 : decode cX3_construct 0 = .ok (.iload_n 3, 1) := by decide +kernel
theorem dX3_construct_1 : decode cX3_construct 1 = .ok (.bipush 20, 2) := by decide +kernel
theorem dX3_construct_3 : decode cX3_construct 3 = .ok (.if_icmp .ge 12, 3) := by decide +kernel
theorem dX3_construct_6 : decode cX3_construct 6 = .ok (.aload_n 0, 1) := by decide +kernel
theorem dX3_construct_7 : decode cX3_construct 7 = .ok (.iload_n 1, 1) := by decide +kernel
theorem dX3_construct_8 : decode cX3_construct 8 = .ok (.iload_n 3, 1) := by decide +kernel
theorem dX3_construct_9 : decode cX3_construct 9 = .ok (.invokevirtual 239, 3) := by decide +kernel
theorem dX3_construct_12 : decode cX3_construct 12 = .ok (.ifCond .eq 11, 3) := by decide +kernel
theorem dX3_construct_15 : decode cX3_construct 15 = .ok (.aload_n 0, 1) := by decide +kernel
theorem dX3_construct_16 : decode cX3_construct 16 = .ok (.iconst 3, 1) := by decide +kernel
theorem dX3_construct_17 : decode cX3_construct 17 = .ok (.iload_n 1, 1) := by decide +kernel
theorem dX3_construct_18 : decode cX3_construct 18 = .ok (.iload_n 3, 1) := by decide +kernel
theorem dX3_construct_19 : decode cX3_construct 19 = .ok (.invokevirtual 230, 3) := by decide +kernel
theorem dX3_construct_22 : decode cX3_construct 22 = .ok (.ireturn, 1) := by decide +kernel
theorem dX3_construct_23 : decode cX3_construct 23 = .ok (.aload_n 0, 1) := by decide +kernel
theorem dX3_construct_24 : decode cX3_construct 24 = .ok (.getfield 34, 3) := by decide +kernel
theorem dX3_construct_27 : decode cX3_construct 27 = .ok (.iload_n 3, 1) := by decide +kernel
theorem dX3_construct_28 : decode cX3_construct 28 = .ok (.iload_n 1, 1) := by decide +kernel
theorem dX3_construct_29 : decode cX3_construct 29 = .ok (.iastore, 1) := by decide +kernel
theorem dX3_construct_30 : decode cX3_construct 30 = .ok (.aload_n 0, 1) := by decide +kernel
theorem dX3_construct_31 : decode cX3_construct 31 = .ok (.getfield 10, 3) := by decide +kernel
theorem dX3_construct_34 : decode cX3_construct 34 = .ok (.getfield 91, 3) := by decide +kernel
theorem dX3_construct_37 : decode cX3_construct 37 = .ok (.iload_n 1, 1) := by decide +kernel
theorem dX3_construct_38 : decode cX3_construct 38 = .ok (.iaload, 1) := by decide +kernel
theorem dX3_construct_39 : decode cX3_construct 39 = .ok (.istore 4, 2) := by decide +kernel
theorem dX3_construct_41 : decode cX3_construct 41 = .ok (.iconst 0, 1) := by decide +kernel
theorem dX3_construct_42 : decode cX3_construct 42 = .ok (.istore 5, 2) := by decide +kernel
theorem dX3_construct_44 : decode cX3_construct 44 = .ok (.iload 5, 2) := by decide +kernel
theorem dX3_construct_46 : decode cX3_construct 46 = .ok (.iload 4, 2) := by decide +kernel
theorem dX3_construct_48 : decode cX3_construct 48 = .ok (.if_icmp .ge 42, 3) := by decide +kernel
theorem dX3_construct_51 : decode cX3_construct 51 = .ok (.aload_n 0, 1) := by decide +kernel
theorem dX3_construct_52 : decode cX3_construct 52 = .ok (.iload_n 1, 1) := by decide +kernel
theorem dX3_construct_53 : decode cX3_construct 53 = .ok (.iload 5, 2) := by decide +kernel
theorem dX3_construct_55 : decode cX3_construct 55 = .ok (.iload_n 3, 1) := by decide +kernel
theorem dX3_construct_56 : decode cX3_construct 56 = .ok (.iconst 1, 1) := by decide +kernel
theorem dX3_construct_57 : decode cX3_construct 57 = .ok (.iadd, 1) := by decide +kernel
theorem dX3_construct_58 : decode cX3_construct 58 = .ok (.invokevirtual 242, 3) := by decide +kernel
theorem dX3_construct_61 : decode cX3_construct 61 = .ok (.istore 6, 2) := by decide +kernel
theorem dX3_construct_63 : decode cX3_construct 63 = .ok (.iload 6, 2) := by decide +kernel
theorem dX3_construct_65 : decode cX3_construct 65 = .ok (.bipush (-2), 2) := by decide +kernel
theorem dX3_construct_67 : decode cX3_construct 67 = .ok (.if_icmp .ne 6, 3) := by decide +kernel
theorem dX3_construct_70 : decode cX3_construct 70 = .ok (.bipush (-2), 2) := by decide +kernel
theorem dX3_construct_72 : decode cX3_construct 72 = .ok (.ireturn, 1) := by decide +kernel
theorem dX3_construct_73 : decode cX3_construct 73 = .ok (.aload_n 0, 1) := by decide +kernel
theorem dX3_construct_74 : decode cX3_construct 74 = .ok (.getfield 40, 3) := by decide +kernel
theorem dX3_construct_77 : decode cX3_construct 77 = .ok (.iload_n 3, 1) := by decide +kernel
theorem dX3_construct_78 : decode cX3_construct 78 = .ok (.aaload, 1) := by decide +kernel
theorem dX3_construct_79 : decode cX3_construct 79 = .ok (.iload 5, 2) := by decide +kernel
theorem dX3_construct_81 : decode cX3_construct 81 = .ok (.iload 6, 2) := by decide +kernel
theorem dX3_construct_83 : decode cX3_construct 83 = .ok (.iastore, 1) := by decide +kernel
theorem dX3_construct_84 : decode cX3_construct 84 = .ok (.iinc 5 1, 3) := by decide +kernel
theorem dX3_construct_87 : decode cX3_construct 87 = .ok (.goto (-43), 3) := by decide +kernel
theorem dX3_construct_90 : decode cX3_construct 90 = .ok (.aload_n 0, 1) := by decide +kernel
theorem dX3_construct_91 : decode cX3_construct 91 = .ok (.iload_n 1, 1) := by decide +kernel
theorem dX3_construct_92 : decode cX3_construct 92 = .ok (.iload_n 2, 1) := by decide +kernel
theorem dX3_construct_93 : decode cX3_construct 93 = .ok (.iload_n 3, 1) := by decide +kernel
theorem dX3_construct_94 : decode cX3_construct 94 = .ok (.invokevirtual 245, 3) := by decide +kernel
theorem dX3_construct_97 : decode cX3_construct 97 = .ok (.ireturn, 1) := by decide +kernel
theorem dX3_isUnderConstruction_0 : decode cX3_isUnderConstruction 0 = .ok (.iconst 0, 1) := by decide +kernel
theorem dX3_isUnderConstruction_1 : decode cX3_isUnderConstruction 1 = .ok (.istore_n 3, 1) := by decide +kernel
theorem dX3_isUnderConstruction_2 : decode cX3_isUnderConstruction 2 = .ok (.iload_n 3, 1) := by decide +kernel
theorem dX3_isUnderConstruction_3 : decode cX3_isUnderConstruction 3 = .ok (.iload_n 2, 1) := by decide +kernel
theorem dX3_isUnderConstruction_4 : decode cX3_isUnderConstruction 4 = .ok (.if_icmp .ge 21, 3) := by decide +kernel
theorem dX3_isUnderConstruction_7 : decode cX3_isUnderConstruction 7 = .ok (.aload_n 0, 1) := by decide +kernel
theorem dX3_isUnderConstruction_8 : decode cX3_isUnderConstruction 8 = .ok (.getfield 34, 3) := by decide +kernel
theorem dX3_isUnderConstruction_11 : decode cX3_isUnderConstruction 11 = .ok (.iload_n 3, 1) := by decide +kernel
theorem dX3_isUnderConstruction_12 : decode cX3_isUnderConstruction 12 = .ok (.iaload, 1) := by decide +kernel
theorem dX3_isUnderConstruction_13 : decode cX3_isUnderConstruction 13 = .ok (.iload_n 1, 1) := by decide +kernel
theorem dX3_isUnderConstruction_14 : decode cX3_isUnderConstruction 14 = .ok (.if_icmp .ne 5, 3) := by decide +kernel
theorem dX3_isUnderConstruction_17 : decode cX3_isUnderConstruction 17 = .ok (.iconst 1, 1) := by decide +kernel
theorem dX3_isUnderConstruction_18 : decode cX3_isUnderConstruction 18 = .ok (.ireturn, 1) := by decide +kernel
theorem dX3_isUnderConstruction_19 : decode cX3_isUnderConstruction 19 = .ok (.iinc 3 1, 3) := by decide +kernel
theorem dX3_isUnderConstruction_22 : decode cX3_isUnderConstruction 22 = .ok (.goto (-20), 3) := by decide +kernel
theorem dX3_isUnderConstruction_25 : decode cX3_isUnderConstruction 25 = .ok (.iconst 0, 1) := by decide +kernel
theorem dX3_isUnderConstruction_26 : decode cX3_isUnderConstruction 26 = .ok (.ireturn, 1) := by decide +kernel
theorem dX3_inject_0 : decode cX3_inject 0 = .ok (.aload_n 0, 1) := by decide +kernel
theorem dX3_inject_1 : decode cX3_inject 1 = .ok (.getfield 10, 3) := by decide +kernel
theorem dX3_inject_4 : decode cX3_inject 4 = .ok (.iload_n 1, 1) := by decide +kernel
theorem dX3_inject_5 : decode cX3_inject 5 = .ok (.iload_n 2, 1) := by decide +kernel
theorem dX3_inject_6 : decode cX3_inject 6 = .ok (.iconst 2, 1) := by decide +kernel
theorem dX3_inject_7 : decode cX3_inject 7 = .ok (.invokevirtual 105, 3) := by decide +kernel
theorem dX3_inject_10 : decode cX3_inject 10 = .ok (.istore 4, 2) := by decide +kernel
theorem dX3_inject_12 : decode cX3_inject 12 = .ok (.iload 4, 2) := by decide +kernel
theorem dX3_inject_14 : decode cX3_inject 14 = .ok (.iconst 3, 1) := by decide +kernel
theorem dX3_inject_15 : decode cX3_inject 15 = .ok (.if_icmp .ne 5, 3) := by decide +kernel
theorem dX3_inject_18 : decode cX3_inject 18 = .ok (.iconst (-1), 1) := by decide +kernel
theorem dX3_inject_19 : decode cX3_inject 19 = .ok (.ireturn, 1) := by decide +kernel
theorem dX3_inject_20 : decode cX3_inject 20 = .ok (.aload_n 0, 1) := by decide +kernel
theorem dX3_inject_21 : decode cX3_inject 21 = .ok (.getfield 10, 3) := by decide +kernel
theorem dX3_inject_24 : decode cX3_inject 24 = .ok (.iload_n 1, 1) := by decide +kernel
theorem dX3_inject_25 : decode cX3_inject 25 = .ok (.iload_n 2, 1) := by decide +kernel
theorem dX3_inject_26 : decode cX3_inject 26 = .ok (.invokevirtual 219, 3) := by decide +kernel
theorem dX3_inject_29 : decode cX3_inject 29 = .ok (.istore 5, 2) := by decide +kernel
theorem dX3_inject_31 : decode cX3_inject 31 = .ok (.iload 4, 2) := by decide +kernel
theorem dX3_inject_33 : decode cX3_inject 33 = .ok (.iconst 2, 1) := by decide +kernel
theorem dX3_inject_34 : decode cX3_inject 34 = .ok (.if_icmp .ne 11, 3) := by decide +kernel
theorem dX3_inject_37 : decode cX3_inject 37 = .ok (.aload_n 0, 1) := by decide +kernel
theorem dX3_inject_38 : decode cX3_inject 38 = .ok (.iload 5, 2) := by decide +kernel
theorem dX3_inject_40 : decode cX3_inject 40 = .ok (.iload_n 3, 1) := by decide +kernel
theorem dX3_inject_41 : decode cX3_inject 41 = .ok (.invokevirtual 248, 3) := by decide +kernel
theorem dX3_inject_44 : decode cX3_inject 44 = .ok (.ireturn, 1) := by decide +kernel
theorem dX3_inject_45 : decode cX3_inject 45 = .ok (.iload 4, 2) := by decide +kernel
theorem dX3_inject_47 : decode cX3_inject 47 = .ok (.iconst 1, 1) := by decide +kernel
theorem dX3_inject_48 : decode cX3_inject 48 = .ok (.if_icmp .ne 10, 3) := by decide +kernel
theorem dX3_inject_51 : decode cX3_inject 51 = .ok (.iload 5, 2) := by decide +kernel
theorem dX3_inject_53 : decode cX3_inject 53 = .ok (.ifCond .ne 5, 3) := by decide +kernel
theorem dX3_inject_56 : decode cX3_inject 56 = .ok (.iconst (-1), 1) := by decide +kernel
theorem dX3_inject_57 : decode cX3_inject 57 = .ok (.ireturn, 1) := by decide +kernel
theorem dX3_inject_58 : decode cX3_inject 58 = .ok (.aload_n 0, 1) := by decide +kernel
theorem dX3_inject_59 : decode cX3_inject 59 = .ok (.aload_n 0, 1) := by decide +kernel
theorem dX3_inject_60 : decode cX3_inject 60 = .ok (.getfield 10, 3) := by decide +kernel
theorem dX3_inject_63 : decode cX3_inject 63 = .ok (.iload_n 1, 1) := by decide +kernel
theorem dX3_inject_64 : decode cX3_inject 64 = .ok (.iload_n 2, 1) := by decide +kernel
theorem dX3_inject_65 : decode cX3_inject 65 = .ok (.iconst 0, 1) := by decide +kernel
theorem dX3_inject_66 : decode cX3_inject 66 = .ok (.invokevirtual 105, 3) := by decide +kernel
theorem dX3_inject_69 : decode cX3_inject 69 = .ok (.aload_n 0, 1) := by decide +kernel
theorem dX3_inject_70 : decode cX3_inject 70 = .ok (.getfield 10, 3) := by decide +kernel
theorem dX3_inject_73 : decode cX3_inject 73 = .ok (.iload_n 1, 1) := by decide +kernel
theorem dX3_inject_74 : decode cX3_inject 74 = .ok (.iload_n 2, 1) := by decide +kernel
theorem dX3_inject_75 : decode cX3_inject 75 = .ok (.iconst 1, 1) := by decide +kernel
theorem dX3_inject_76 : decode cX3_inject 76 = .ok (.invokevirtual 105, 3) := by decide +kernel
theorem dX3_inject_79 : decode cX3_inject 79 = .ok (.iload_n 3, 1) := by decide +kernel
theorem dX3_inject_80 : decode cX3_inject 80 = .ok (.invokevirtual 225, 3) := by decide +kernel
theorem dX3_inject_83 : decode cX3_inject 83 = .ok (.ireturn, 1) := by decide +kernel
theorem dX3_obtainEach_0 : decode cX3_obtainEach 0 = .ok (.iconst 0, 1) := by decide +kernel
theorem dX3_obtainEach_1 : decode cX3_obtainEach 1 = .ok (.istore_n 3, 1) := by decide +kernel
theorem dX3_obtainEach_2 : decode cX3_obtainEach 2 = .ok (.iconst 0, 1) := by decide +kernel
theorem dX3_obtainEach_3 : decode cX3_obtainEach 3 = .ok (.istore 4, 2) := by decide +kernel
theorem dX3_obtainEach_5 : decode cX3_obtainEach 5 = .ok (.iload 4, 2) := by decide +kernel
theorem dX3_obtainEach_7 : decode cX3_obtainEach 7 = .ok (.aload_n 0, 1) := by decide +kernel
theorem dX3_obtainEach_8 : decode cX3_obtainEach 8 = .ok (.getfield 10, 3) := by decide +kernel
theorem dX3_obtainEach_11 : decode cX3_obtainEach 11 = .ok (.getfield 57, 3) := by decide +kernel
theorem dX3_obtainEach_14 : decode cX3_obtainEach 14 = .ok (.if_icmp .ge 36, 3) := by decide +kernel
theorem dX3_obtainEach_17 : decode cX3_obtainEach 17 = .ok (.iload_n 1, 1) := by decide +kernel
theorem dX3_obtainEach_18 : decode cX3_obtainEach 18 = .ok (.iload 4, 2) := by decide +kernel
theorem dX3_obtainEach_20 : decode cX3_obtainEach 20 = .ok (.invokestatic 114, 3) := by decide +kernel
theorem dX3_obtainEach_23 : decode cX3_obtainEach 23 = .ok (.ifCond .eq 21, 3) := by decide +kernel
theorem dX3_obtainEach_26 : decode cX3_obtainEach 26 = .ok (.aload_n 0, 1) := by decide +kernel
theorem dX3_obtainEach_27 : decode cX3_obtainEach 27 = .ok (.iload 4, 2) := by decide +kernel
theorem dX3_obtainEach_29 : decode cX3_obtainEach 29 = .ok (.iload_n 2, 1) := by decide +kernel
theorem dX3_obtainEach_30 : decode cX3_obtainEach 30 = .ok (.invokevirtual 156, 3) := by decide +kernel
theorem dX3_obtainEach_33 : decode cX3_obtainEach 33 = .ok (.bipush (-2), 2) := by decide +kernel
theorem dX3_obtainEach_35 : decode cX3_obtainEach 35 = .ok (.if_icmp .ne 6, 3) := by decide +kernel
theorem dX3_obtainEach_38 : decode cX3_obtainEach 38 = .ok (.bipush (-2), 2) := by decide +kernel
theorem dX3_obtainEach_40 : decode cX3_obtainEach 40 = .ok (.ireturn, 1) := by decide +kernel
theorem dX3_obtainEach_41 : decode cX3_obtainEach 41 = .ok (.iinc 3 1, 3) := by decide +kernel
theorem dX3_obtainEach_44 : decode cX3_obtainEach 44 = .ok (.iinc 4 1, 3) := by decide +kernel
theorem dX3_obtainEach_47 : decode cX3_obtainEach 47 = .ok (.goto (-42), 3) := by decide +kernel
theorem dX3_obtainEach_50 : decode cX3_obtainEach 50 = .ok (.iload_n 3, 1) := by decide +kernel
theorem dX3_obtainEach_51 : decode cX3_obtainEach 51 = .ok (.ireturn, 1) := by decide +kernel
theorem dX3_complete_0 : decode cX3_complete 0 = .ok (.aload_n 0, 1) := by decide +kernel
theorem dX3_complete_1 : decode cX3_complete 1 = .ok (.getfield 19, 3) := by decide +kernel
theorem dX3_complete_4 : decode cX3_complete 4 = .ok (.getfield 151, 3) := by decide +kernel
theorem dX3_complete_7 : decode cX3_complete 7 = .ok (.sipush 300, 3) := by decide +kernel
theorem dX3_complete_10 : decode cX3_complete 10 = .ok (.if_icmp .lt 13, 3) := by decide +kernel
theorem dX3_complete_13 : decode cX3_complete 13 = .ok (.aload_n 0, 1) := by decide +kernel
theorem dX3_complete_14 : decode cX3_complete 14 = .ok (.iconst 5, 1) := by decide +kernel
theorem dX3_complete_15 : decode cX3_complete 15 = .ok (.iload_n 1, 1) := by decide +kernel
theorem dX3_complete_16 : decode cX3_complete 16 = .ok (.iload_n 3, 1) := by decide +kernel
theorem dX3_complete_17 : decode cX3_complete 17 = .ok (.iconst 1, 1) := by decide +kernel
theorem dX3_complete_18 : decode cX3_complete 18 = .ok (.iadd, 1) := by decide +kernel
theorem dX3_complete_19 : decode cX3_complete 19 = .ok (.invokevirtual 230, 3) := by decide +kernel
theorem dX3_complete_22 : decode cX3_complete 22 = .ok (.ireturn, 1) := by decide +kernel
theorem dX3_complete_23 : decode cX3_complete 23 = .ok (.aload_n 0, 1) := by decide +kernel
theorem dX3_complete_24 : decode cX3_complete 24 = .ok (.getfield 10, 3) := by decide +kernel
theorem dX3_complete_27 : decode cX3_complete 27 = .ok (.getfield 78, 3) := by decide +kernel
theorem dX3_complete_30 : decode cX3_complete 30 = .ok (.iload_n 1, 1) := by decide +kernel
theorem dX3_complete_31 : decode cX3_complete 31 = .ok (.aaload, 1) := by decide +kernel
theorem dX3_complete_32 : decode cX3_complete 32 = .ok (.bipush 6, 2) := by decide +kernel
theorem dX3_complete_34 : decode cX3_complete 34 = .ok (.iaload, 1) := by decide +kernel
theorem dX3_complete_35 : decode cX3_complete 35 = .ok (.istore 4, 2) := by decide +kernel
theorem dX3_complete_37 : decode cX3_complete 37 = .ok (.iload 4, 2) := by decide +kernel
theorem dX3_complete_39 : decode cX3_complete 39 = .ok (.iconst (-1), 1) := by decide +kernel
theorem dX3_complete_40 : decode cX3_complete 40 = .ok (.if_icmp .eq 28, 3) := by decide +kernel
theorem dX3_complete_43 : decode cX3_complete 43 = .ok (.aload_n 0, 1) := by decide +kernel
theorem dX3_complete_44 : decode cX3_complete 44 = .ok (.getfield 19, 3) := by decide +kernel
theorem dX3_complete_47 : decode cX3_complete 47 = .ok (.getfield 251, 3) := by decide +kernel
theorem dX3_complete_50 : decode cX3_complete 50 = .ok (.iload_n 1, 1) := by decide +kernel
theorem dX3_complete_51 : decode cX3_complete 51 = .ok (.iaload, 1) := by decide +kernel
theorem dX3_complete_52 : decode cX3_complete 52 = .ok (.iload 4, 2) := by decide +kernel
theorem dX3_complete_54 : decode cX3_complete 54 = .ok (.if_icmp .lt 14, 3) := by decide +kernel
theorem dX3_complete_57 : decode cX3_complete 57 = .ok (.aload_n 0, 1) := by decide +kernel
theorem dX3_complete_58 : decode cX3_complete 58 = .ok (.bipush 6, 2) := by decide +kernel
theorem dX3_complete_60 : decode cX3_complete 60 = .ok (.iload_n 1, 1) := by decide +kernel
theorem dX3_complete_61 : decode cX3_complete 61 = .ok (.iload_n 3, 1) := by decide +kernel
theorem dX3_complete_62 : decode cX3_complete 62 = .ok (.iconst 1, 1) := by decide +kernel
theorem dX3_complete_63 : decode cX3_complete 63 = .ok (.iadd, 1) := by decide +kernel
theorem dX3_complete_64 : decode cX3_complete 64 = .ok (.invokevirtual 230, 3) := by decide +kernel
theorem dX3_complete_67 : decode cX3_complete 67 = .ok (.ireturn, 1) := by decide +kernel
theorem dX3_complete_68 : decode cX3_complete 68 = .ok (.aload_n 0, 1) := by decide +kernel
theorem dX3_complete_69 : decode cX3_complete 69 = .ok (.getfield 19, 3) := by decide +kernel
theorem dX3_complete_72 : decode cX3_complete 72 = .ok (.iload_n 1, 1) := by decide +kernel
theorem dX3_complete_73 : decode cX3_complete 73 = .ok (.iload_n 2, 1) := by decide +kernel
theorem dX3_complete_74 : decode cX3_complete 74 = .ok (.aload_n 0, 1) := by decide +kernel
theorem dX3_complete_75 : decode cX3_complete 75 = .ok (.getfield 40, 3) := by decide +kernel
theorem dX3_complete_78 : decode cX3_complete 78 = .ok (.iload_n 3, 1) := by decide +kernel
theorem dX3_complete_79 : decode cX3_complete 79 = .ok (.aaload, 1) := by decide +kernel
theorem dX3_complete_80 : decode cX3_complete 80 = .ok (.aload_n 0, 1) := by decide +kernel
theorem dX3_complete_81 : decode cX3_complete 81 = .ok (.getfield 10, 3) := by decide +kernel
theorem dX3_complete_84 : decode cX3_complete 84 = .ok (.getfield 91, 3) := by decide +kernel
theorem dX3_complete_87 : decode cX3_complete 87 = .ok (.iload_n 1, 1) := by decide +kernel
theorem dX3_complete_88 : decode cX3_complete 88 = .ok (.iaload, 1) := by decide +kernel
theorem dX3_complete_89 : decode cX3_complete 89 = .ok (.invokevirtual 254, 3) := by decide +kernel
theorem dX3_complete_92 : decode cX3_complete 92 = .ok (.ireturn, 1) := by decide +kernel
theorem dX3_recordFailure_0 : decode cX3_recordFailure 0 = .ok (.aload_n 0, 1) := by decide +kernel
theorem dX3_recordFailure_1 : decode cX3_recordFailure 1 = .ok (.getfield 26, 3) := by decide +kernel
theorem dX3_recordFailure_4 : decode cX3_recordFailure 4 = .ok (.iload_n 1, 1) := by decide +kernel
theorem dX3_recordFailure_5 : decode cX3_recordFailure 5 = .ok (.iload_n 2, 1) := by decide +kernel
theorem dX3_recordFailure_6 : decode cX3_recordFailure 6 = .ok (.aload_n 0, 1) := by decide +kernel
theorem dX3_recordFailure_7 : decode cX3_recordFailure 7 = .ok (.getfield 34, 3) := by decide +kernel
theorem dX3_recordFailure_10 : decode cX3_recordFailure 10 = .ok (.iload_n 3, 1) := by decide +kernel
theorem dX3_recordFailure_11 : decode cX3_recordFailure 11 = .ok (.invokevirtual 257, 3) := by decide +kernel
theorem dX3_recordFailure_14 : decode cX3_recordFailure 14 = .ok (.bipush (-2), 2) := by decide +kernel
theorem dX3_recordFailure_16 : decode cX3_recordFailure 16 = .ok (.ireturn, 1) := by decide +kernel
theorem dX3_closeInnermostScope_0 : decode cX3_closeInnermostScope 0 = .ok (.aload_n 0, 1) := by decide +kernel
theorem dX3_closeInnermostScope_1 : decode cX3_closeInnermostScope 1 = .ok (.getfield 19, 3) := by decide +kernel
theorem dX3_closeInnermostScope_4 : decode cX3_closeInnermostScope 4 = .ok (.aload_n 0, 1) := by decide +kernel
theorem dX3_closeInnermostScope_5 : decode cX3_closeInnermostScope 5 = .ok (.getfield 30, 3) := by decide +kernel
theorem dX3_closeInnermostScope_8 : decode cX3_closeInnermostScope 8 = .ok (.invokevirtual 172, 3) := by decide +kernel
theorem dX3_closeInnermostScope_11 : decode cX3_closeInnermostScope 11 = .ok (.istore_n 1, 1) := by decide +kernel
theorem dX3_closeInnermostScope_12 : decode cX3_closeInnermostScope 12 = .ok (.aload_n 0, 1) := by decide +kernel
theorem dX3_closeInnermostScope_13 : decode cX3_closeInnermostScope 13 = .ok (.dup, 1) := by decide +kernel
theorem dX3_closeInnermostScope_14 : decode cX3_closeInnermostScope 14 = .ok (.getfield 30, 3) := by decide +kernel
theorem dX3_closeInnermostScope_17 : decode cX3_closeInnermostScope 17 = .ok (.iconst 1, 1) := by decide +kernel
theorem dX3_closeInnermostScope_18 : decode cX3_closeInnermostScope 18 = .ok (.isub, 1) := by decide +kernel
theorem dX3_closeInnermostScope_19 : decode cX3_closeInnermostScope 19 = .ok (.putfield 30, 3) := by decide +kernel
theorem dX3_closeInnermostScope_22 : decode cX3_closeInnermostScope 22 = .ok (.iload_n 1, 1) := by decide +kernel
theorem dX3_closeInnermostScope_23 : decode cX3_closeInnermostScope 23 = .ok (.ireturn, 1) := by decide +kernel
theorem dX3_isIn_0 : decode cX3_isIn 0 = .ok (.iload_n 0, 1) := by decide +kernel
theorem dX3_isIn_1 : decode cX3_isIn 1 = .ok (.iconst 1, 1) := by decide +kernel
theorem dX3_isIn_2 : decode cX3_isIn 2 = .ok (.iload_n 1, 1) := by decide +kernel
theorem dX3_isIn_3 : decode cX3_isIn 3 = .ok (.ishl, 1) := by decide +kernel
theorem dX3_isIn_4 : decode cX3_isIn 4 = .ok (.iand, 1) := by decide +kernel
theorem dX3_isIn_5 : decode cX3_isIn 5 = .ok (.ifCond .eq 7, 3) := by decide +kernel
theorem dX3_isIn_8 : decode cX3_isIn 8 = .ok (.iconst 1, 1) := by decide +kernel
theorem dX3_isIn_9 : decode cX3_isIn 9 = .ok (.goto 4, 3) := by decide +kernel
theorem dX3_isIn_12 : decode cX3_isIn 12 = .ok (.iconst 0, 1) := by decide +kernel
theorem dX3_isIn_13 : decode cX3_isIn 13 = .ok (.ireturn, 1) := by decide +kernel
theorem dX4_init_0 : decode cX4_init 0 = .ok (.aload_n 0, 1) := by decide +kernel
theorem dX4_init_1 : decode cX4_init 1 = .ok (.invokespecial 1, 3) := by decide +kernel
theorem dX4_init_4 : decode cX4_init 4 = .ok (.aload_n 0, 1) := by decide +kernel
theorem dX4_init_5 : decode cX4_init 5 = .ok (.sipush 140, 3) := by decide +kernel
theorem dX4_init_8 : decode cX4_init 8 = .ok (.newarray .int, 2) := by decide +kernel
theorem dX4_init_10 : decode cX4_init 10 = .ok (.putfield 7, 3) := by decide +kernel
theorem dX4_init_13 : decode cX4_init 13 = .ok (.aload_n 0, 1) := by decide +kernel
theorem dX4_init_14 : decode cX4_init 14 = .ok (.bipush 20, 2) := by decide +kernel
theorem dX4_init_16 : decode cX4_init 16 = .ok (.newarray .int, 2) := by decide +kernel
theorem dX4_init_18 : decode cX4_init 18 = .ok (.putfield 13, 3) := by decide +kernel
theorem dX4_init_21 : decode cX4_init 21 = .ok (.aload_n 0, 1) := by decide +kernel
theorem dX4_init_22 : decode cX4_init 22 = .ok (.sipush 360, 3) := by decide +kernel
theorem dX4_init_25 : decode cX4_init 25 = .ok (.newarray .int, 2) := by decide +kernel
theorem dX4_init_27 : decode cX4_init 27 = .ok (.putfield 16, 3) := by decide +kernel
theorem dX4_init_30 : decode cX4_init 30 = .ok (.aload_n 0, 1) := by decide +kernel
theorem dX4_init_31 : decode cX4_init 31 = .ok (.bipush 20, 2) := by decide +kernel
theorem dX4_init_33 : decode cX4_init 33 = .ok (.newarray .int, 2) := by decide +kernel
theorem dX4_init_35 : decode cX4_init 35 = .ok (.putfield 19, 3) := by decide +kernel
theorem dX4_init_38 : decode cX4_init 38 = .ok (.aload_n 0, 1) := by decide +kernel
theorem dX4_init_39 : decode cX4_init 39 = .ok (.bipush 21, 2) := by decide +kernel
theorem dX4_init_41 : decode cX4_init 41 = .ok (.newarray .int, 2) := by decide +kernel
theorem dX4_init_43 : decode cX4_init 43 = .ok (.putfield 22, 3) := by decide +kernel
theorem dX4_init_46 : decode cX4_init 46 = .ok (.aload_n 0, 1) := by decide +kernel
theorem dX4_init_47 : decode cX4_init 47 = .ok (.bipush 21, 2) := by decide +kernel
theorem dX4_init_49 : decode cX4_init 49 = .ok (.newarray .int, 2) := by decide +kernel
theorem dX4_init_51 : decode cX4_init 51 = .ok (.putfield 25, 3) := by decide +kernel
theorem dX4_init_54 : decode cX4_init 54 = .ok (.aload_n 0, 1) := by decide +kernel
theorem dX4_init_55 : decode cX4_init 55 = .ok (.bipush 21, 2) := by decide +kernel
theorem dX4_init_57 : decode cX4_init 57 = .ok (.newarray .int, 2) := by decide +kernel
theorem dX4_init_59 : decode cX4_init 59 = .ok (.putfield 28, 3) := by decide +kernel
theorem dX4_init_62 : decode cX4_init 62 = .ok (.aload_n 0, 1) := by decide +kernel
theorem dX4_init_63 : decode cX4_init 63 = .ok (.sipush 300, 3) := by decide +kernel
theorem dX4_init_66 : decode cX4_init 66 = .ok (.newarray .int, 2) := by decide +kernel
theorem dX4_init_68 : decode cX4_init 68 = .ok (.putfield 31, 3) := by decide +kernel
theorem dX4_init_71 : decode cX4_init 71 = .ok (.aload_n 0, 1) := by decide +kernel
theorem dX4_init_72 : decode cX4_init 72 = .ok (.sipush 300, 3) := by decide +kernel
theorem dX4_init_75 : decode cX4_init 75 = .ok (.newarray .int, 2) := by decide +kernel
theorem dX4_init_77 : decode cX4_init 77 = .ok (.putfield 34, 3) := by decide +kernel
theorem dX4_init_80 : decode cX4_init 80 = .ok (.aload_n 0, 1) := by decide +kernel
theorem dX4_init_81 : decode cX4_init 81 = .ok (.sipush 300, 3) := by decide +kernel
theorem dX4_init_84 : decode cX4_init 84 = .ok (.newarray .int, 2) := by decide +kernel
theorem dX4_init_86 : decode cX4_init 86 = .ok (.putfield 37, 3) := by decide +kernel
theorem dX4_init_89 : decode cX4_init 89 = .ok (.aload_n 0, 1) := by decide +kernel
theorem dX4_init_90 : decode cX4_init 90 = .ok (.sipush 300, 3) := by decide +kernel
theorem dX4_init_93 : decode cX4_init 93 = .ok (.newarray .boolean, 2) := by decide +kernel
theorem dX4_init_95 : decode cX4_init 95 = .ok (.putfield 40, 3) := by decide +kernel
theorem dX4_init_98 : decode cX4_init 98 = .ok (.aload_n 0, 1) := by decide +kernel
theorem dX4_init_99 : decode cX4_init 99 = .ok (.sipush 300, 3) := by decide +kernel
theorem dX4_init_102 : decode cX4_init 102 = .ok (.newarray .int, 2) := by decide +kernel
theorem dX4_init_104 : decode cX4_init 104 = .ok (.putfield 44, 3) := by decide +kernel
theorem dX4_init_107 : decode cX4_init 107 = .ok (.aload_n 0, 1) := by decide +kernel
theorem dX4_init_108 : decode cX4_init 108 = .ok (.sipush 1800, 3) := by decide +kernel
theorem dX4_init_111 : decode cX4_init 111 = .ok (.newarray .int, 2) := by decide +kernel
theorem dX4_init_113 : decode cX4_init 113 = .ok (.putfield 47, 3) := by decide +kernel
theorem dX4_init_116 : decode cX4_init 116 = .ok (.aload_n 0, 1) := by decide +kernel
theorem dX4_init_117 : decode cX4_init 117 = .ok (.sipush 600, 3) := by decide +kernel
theorem dX4_init_120 : decode cX4_init 120 = .ok (.newarray .int, 2) := by decide +kernel
theorem dX4_init_122 : decode cX4_init 122 = .ok (.putfield 50, 3) := by decide +kernel
theorem dX4_init_125 : decode cX4_init 125 = .ok (.aload_n 0, 1) := by decide +kernel
theorem dX4_init_126 : decode cX4_init 126 = .ok (.bipush 20, 2) := by decide +kernel
theorem dX4_init_128 : decode cX4_init 128 = .ok (.newarray .int, 2) := by decide +kernel
theorem dX4_init_130 : decode cX4_init 130 = .ok (.putfield 53, 3) := by decide +kernel
theorem dX4_init_133 : decode cX4_init 133 = .ok (.aload_n 0, 1) := by decide +kernel
theorem dX4_init_134 : decode cX4_init 134 = .ok (.bipush 21, 2) := by decide +kernel
theorem dX4_init_136 : decode cX4_init 136 = .ok (.newarray .int, 2) := by decide +kernel
theorem dX4_init_138 : decode cX4_init 138 = .ok (.putfield 56, 3) := by decide +kernel
theorem dX4_init_141 : decode cX4_init 141 = .ok (.aload_n 0, 1) := by decide +kernel
theorem dX4_init_142 : decode cX4_init 142 = .ok (.bipush 21, 2) := by decide +kernel
theorem dX4_init_144 : decode cX4_init 144 = .ok (.newarray .boolean, 2) := by decide +kernel
theorem dX4_init_146 : decode cX4_init 146 = .ok (.putfield 59, 3) := by decide +kernel
theorem dX4_init_149 : decode cX4_init 149 = .ok (.aload_n 0, 1) := by decide +kernel
theorem dX4_init_150 : decode cX4_init 150 = .ok (.bipush 21, 2) := by decide +kernel
theorem dX4_init_152 : decode cX4_init 152 = .ok (.newarray .int, 2) := by decide +kernel
theorem dX4_init_154 : decode cX4_init 154 = .ok (.putfield 62, 3) := by decide +kernel
theorem dX4_init_157 : decode cX4_init 157 = .ok (.aload_n 0, 1) := by decide +kernel
theorem dX4_init_158 : decode cX4_init 158 = .ok (.bipush 126, 2) := by decide +kernel
theorem dX4_init_160 : decode cX4_init 160 = .ok (.newarray .int, 2) := by decide +kernel
theorem dX4_init_162 : decode cX4_init 162 = .ok (.putfield 65, 3) := by decide +kernel
theorem dX4_init_165 : decode cX4_init 165 = .ok (.aload_n 0, 1) := by decide +kernel
theorem dX4_init_166 : decode cX4_init 166 = .ok (.iconst (-1), 1) := by decide +kernel
theorem dX4_init_167 : decode cX4_init 167 = .ok (.putfield 68, 3) := by decide +kernel
theorem dX4_init_170 : decode cX4_init 170 = .ok (.return_, 1) := by decide +kernel
theorem dX4_thrown_0 : decode cX4_thrown 0 = .ok (.aload_n 0, 1) := by decide +kernel
theorem dX4_thrown_1 : decode cX4_thrown 1 = .ok (.getfield 72, 3) := by decide +kernel
theorem dX4_thrown_4 : decode cX4_thrown 4 = .ok (.ireturn, 1) := by decide +kernel
theorem dX4_in_0 : decode cX4_in 0 = .ok (.iload_n 0, 1) := by decide +kernel
theorem dX4_in_1 : decode cX4_in 1 = .ok (.iload_n 1, 1) := by decide +kernel
theorem dX4_in_2 : decode cX4_in 2 = .ok (.if_icmp .lt 12, 3) := by decide +kernel
theorem dX4_in_5 : decode cX4_in 5 = .ok (.iload_n 0, 1) := by decide +kernel
theorem dX4_in_6 : decode cX4_in 6 = .ok (.iload_n 2, 1) := by decide +kernel
theorem dX4_in_7 : decode cX4_in 7 = .ok (.if_icmp .gt 7, 3) := by decide +kernel
theorem dX4_in_10 : decode cX4_in 10 = .ok (.iconst 1, 1) := by decide +kernel
theorem dX4_in_11 : decode cX4_in 11 = .ok (.goto 4, 3) := by decide +kernel
theorem dX4_in_14 : decode cX4_in 14 = .ok (.iconst 0, 1) := by decide +kernel
theorem dX4_in_15 : decode cX4_in 15 = .ok (.ireturn, 1) := by decide +kernel
theorem dX4_isComponent_0 : decode cX4_isComponent 0 = .ok (.iload_n 1, 1) := by decide +kernel
theorem dX4_isComponent_1 : decode cX4_isComponent 1 = .ok (.iconst 0, 1) := by decide +kernel
theorem dX4_isComponent_2 : decode cX4_isComponent 2 = .ok (.aload_n 0, 1) := by decide +kernel
theorem dX4_isComponent_3 : decode cX4_isComponent 3 = .ok (.getfield 75, 3) := by decide +kernel
theorem dX4_isComponent_6 : decode cX4_isComponent 6 = .ok (.iconst 1, 1) := by decide +kernel
theorem dX4_isComponent_7 : decode cX4_isComponent 7 = .ok (.isub, 1) := by decide +kernel
theorem dX4_isComponent_8 : decode cX4_isComponent 8 = .ok (.invokestatic 78, 3) := by decide +kernel
theorem dX4_isComponent_11 : decode cX4_isComponent 11 = .ok (.ireturn, 1) := by decide +kernel
theorem dX4_of_0 : decode cX4_of 0 = .ok (.aload_n 0, 1) := by decide +kernel
theorem dX4_of_1 : decode cX4_of 1 = .ok (.getfield 7, 3) := by decide +kernel
theorem dX4_of_4 : decode cX4_of 4 = .ok (.bipush 7, 2) := by decide +kernel
theorem dX4_of_6 : decode cX4_of 6 = .ok (.iload_n 1, 1) := by decide +kernel
theorem dX4_of_7 : decode cX4_of 7 = .ok (.imul, 1) := by decide +kernel
theorem dX4_of_8 : decode cX4_of 8 = .ok (.iload_n 2, 1) := by decide +kernel
theorem dX4_of_9 : decode cX4_of 9 = .ok (.iadd, 1) := by decide +kernel
theorem dX4_of_10 : decode cX4_of 10 = .ok (.iaload, 1) := by decide +kernel
theorem dX4_of_11 : decode cX4_of 11 = .ok (.ireturn, 1) := by decide +kernel
theorem dX4_add_0 : decode cX4_add 0 = .ok (.aload_n 0, 1) := by decide +kernel
theorem dX4_add_1 : decode cX4_add 1 = .ok (.iload_n 1, 1) := by decide +kernel
theorem dX4_add_2 : decode cX4_add 2 = .ok (.iconst 1, 1) := by decide +kernel
theorem dX4_add_3 : decode cX4_add 3 = .ok (.ldc 82, 2) := by decide +kernel
theorem dX4_add_5 : decode cX4_add 5 = .ok (.invokestatic 78, 3) := by decide +kernel
theorem dX4_add_8 : decode cX4_add 8 = .ok (.ifCond .eq 12, 3) := by decide +kernel
theorem dX4_add_11 : decode cX4_add 11 = .ok (.iload_n 2, 1) := by decide +kernel
theorem dX4_add_12 : decode cX4_add 12 = .ok (.iconst 0, 1) := by decide +kernel
theorem dX4_add_13 : decode cX4_add 13 = .ok (.iconst 2, 1) := by decide +kernel
theorem dX4_add_14 : decode cX4_add 14 = .ok (.invokestatic 78, 3) := by decide +kernel
theorem dX4_add_17 : decode cX4_add 17 = .ok (.ifCond .ne 7, 3) := by decide +kernel
theorem dX4_add_20 : decode cX4_add 20 = .ok (.iconst 1, 1) := by decide +kernel
theorem dX4_add_21 : decode cX4_add 21 = .ok (.goto 17, 3) := by decide +kernel
theorem dX4_add_24 : decode cX4_add 24 = .ok (.aload_n 0, 1) := by decide +kernel
theorem dX4_add_25 : decode cX4_add 25 = .ok (.getfield 75, 3) := by decide +kernel
theorem dX4_add_28 : decode cX4_add 28 = .ok (.bipush 20, 2) := by decide +kernel
theorem dX4_add_30 : decode cX4_add 30 = .ok (.if_icmp .ne 7, 3) := by decide +kernel
theorem dX4_add_33 : decode cX4_add 33 = .ok (.iconst 2, 1) := by decide +kernel
theorem dX4_add_34 : decode cX4_add 34 = .ok (.goto 4, 3) := by decide +kernel
theorem dX4_add_37 : decode cX4_add 37 = .ok (.iconst 0, 1) := by decide +kernel
theorem dX4_add_38 : decode cX4_add 38 = .ok (.putfield 72, 3) := by decide +kernel
theorem dX4_add_41 : decode cX4_add 41 = .ok (.aload_n 0, 1) := by decide +kernel
theorem dX4_add_42 : decode cX4_add 42 = .ok (.getfield 72, 3) := by decide +kernel
theorem dX4_add_45 : decode cX4_add 45 = .ok (.ifCond .eq 5, 3) := by decide +kernel
theorem dX4_add_48 : decode cX4_add 48 = .ok (.iconst 0, 1) := by decide +kernel
theorem dX4_add_49 : decode cX4_add 49 = .ok (.ireturn, 1) := by decide +kernel
theorem dX4_add_50 : decode cX4_add 50 = .ok (.aload_n 0, 1) := by decide +kernel
theorem dX4_add_51 : decode cX4_add 51 = .ok (.getfield 7, 3) := by decide +kernel
theorem dX4_add_54 : decode cX4_add 54 = .ok (.bipush 7, 2) := by decide +kernel
theorem dX4_add_56 : decode cX4_add 56 = .ok (.aload_n 0, 1) := by decide +kernel
theorem dX4_add_57 : decode cX4_add 57 = .ok (.getfield 75, 3) := by decide +kernel
theorem dX4_add_60 : decode cX4_add 60 = .ok (.imul, 1) := by decide +kernel
theorem dX4_add_61 : decode cX4_add 61 = .ok (.iconst 0, 1) := by decide +kernel
theorem dX4_add_62 : decode cX4_add 62 = .ok (.iadd, 1) := by decide +kernel
theorem dX4_add_63 : decode cX4_add 63 = .ok (.iload_n 1, 1) := by decide +kernel
theorem dX4_add_64 : decode cX4_add 64 = .ok (.iastore, 1) := by decide +kernel
theorem dX4_add_65 : decode cX4_add 65 = .ok (.aload_n 0, 1) := by decide +kernel
theorem dX4_add_66 : decode cX4_add 66 = .ok (.getfield 7, 3) := by decide +kernel
theorem dX4_add_69 : decode cX4_add 69 = .ok (.bipush 7, 2) := by decide +kernel
theorem dX4_add_71 : decode cX4_add 71 = .ok (.aload_n 0, 1) := by decide +kernel
theorem dX4_add_72 : decode cX4_add 72 = .ok (.getfield 75, 3) := by decide +kernel
theorem dX4_add_75 : decode cX4_add 75 = .ok (.imul, 1) := by decide +kernel
theorem dX4_add_76 : decode cX4_add 76 = .ok (.iconst 1, 1) := by decide +kernel
theorem dX4_add_77 : decode cX4_add 77 = .ok (.iadd, 1) := by decide +kernel
theorem dX4_add_78 : decode cX4_add 78 = .ok (.iload_n 2, 1) := by decide +kernel
theorem dX4_add_79 : decode cX4_add 79 = .ok (.iastore, 1) := by decide +kernel
theorem dX4_add_80 : decode cX4_add 80 = .ok (.aload_n 0, 1) := by decide +kernel
theorem dX4_add_81 : decode cX4_add 81 = .ok (.getfield 7, 3) := by decide +kernel
theorem dX4_add_84 : decode cX4_add 84 = .ok (.bipush 7, 2) := by decide +kernel
theorem dX4_add_86 : decode cX4_add 86 = .ok (.aload_n 0, 1) := by decide +kernel
theorem dX4_add_87 : decode cX4_add 87 = .ok (.getfield 75, 3) := by decide +kernel
theorem dX4_add_90 : decode cX4_add 90 = .ok (.imul, 1) := by decide +kernel
theorem dX4_add_91 : decode cX4_add 91 = .ok (.iconst 2, 1) := by decide +kernel
theorem dX4_add_92 : decode cX4_add 92 = .ok (.iadd, 1) := by decide +kernel
theorem dX4_add_93 : decode cX4_add 93 = .ok (.iconst (-1), 1) := by decide +kernel
theorem dX4_add_94 : decode cX4_add 94 = .ok (.iastore, 1) := by decide +kernel
theorem dX4_add_95 : decode cX4_add 95 = .ok (.aload_n 0, 1) := by decide +kernel
theorem dX4_add_96 : decode cX4_add 96 = .ok (.getfield 7, 3) := by decide +kernel
theorem dX4_add_99 : decode cX4_add 99 = .ok (.bipush 7, 2) := by decide +kernel
theorem dX4_add_101 : decode cX4_add 101 = .ok (.aload_n 0, 1) := by decide +kernel
theorem dX4_add_102 : decode cX4_add 102 = .ok (.getfield 75, 3) := by decide +kernel
theorem dX4_add_105 : decode cX4_add 105 = .ok (.imul, 1) := by decide +kernel
theorem dX4_add_106 : decode cX4_add 106 = .ok (.iconst 5, 1) := by decide +kernel
theorem dX4_add_107 : decode cX4_add 107 = .ok (.iadd, 1) := by decide +kernel
theorem dX4_add_108 : decode cX4_add 108 = .ok (.iconst (-1), 1) := by decide +kernel
theorem dX4_add_109 : decode cX4_add 109 = .ok (.iastore, 1) := by decide +kernel
theorem dX4_add_110 : decode cX4_add 110 = .ok (.aload_n 0, 1) := by decide +kernel
theorem dX4_add_111 : decode cX4_add 111 = .ok (.getfield 7, 3) := by decide +kernel
theorem dX4_add_114 : decode cX4_add 114 = .ok (.bipush 7, 2) := by decide +kernel
theorem dX4_add_116 : decode cX4_add 116 = .ok (.aload_n 0, 1) := by decide +kernel
theorem dX4_add_117 : decode cX4_add 117 = .ok (.getfield 75, 3) := by decide +kernel
theorem dX4_add_120 : decode cX4_add 120 = .ok (.imul, 1) := by decide +kernel
theorem dX4_add_121 : decode cX4_add 121 = .ok (.bipush 6, 2) := by decide +kernel
theorem dX4_add_123 : decode cX4_add 123 = .ok (.iadd, 1) := by decide +kernel
theorem dX4_add_124 : decode cX4_add 124 = .ok (.iconst (-1), 1) := by decide +kernel
theorem dX4_add_125 : decode cX4_add 125 = .ok (.iastore, 1) := by decide +kernel
theorem dX4_add_126 : decode cX4_add 126 = .ok (.aload_n 0, 1) := by decide +kernel
theorem dX4_add_127 : decode cX4_add 127 = .ok (.dup, 1) := by decide +kernel
theorem dX4_add_128 : decode cX4_add 128 = .ok (.getfield 75, 3) := by decide +kernel
theorem dX4_add_131 : decode cX4_add 131 = .ok (.iconst 1, 1) := by decide +kernel
theorem dX4_add_132 : decode cX4_add 132 = .ok (.iadd, 1) := by decide +kernel
theorem dX4_add_133 : decode cX4_add 133 = .ok (.putfield 75, 3) := by decide +kernel
theorem dX4_add_136 : decode cX4_add 136 = .ok (.aload_n 0, 1) := by decide +kernel
theorem dX4_add_137 : decode cX4_add 137 = .ok (.getfield 75, 3) := by decide +kernel
theorem dX4_add_140 : decode cX4_add 140 = .ok (.iconst 1, 1) := by decide +kernel
theorem dX4_add_141 : decode cX4_add 141 = .ok (.isub, 1) := by decide +kernel
theorem dX4_add_142 : decode cX4_add 142 = .ok (.ireturn, 1) := by decide +kernel
theorem dX4_isValue_0 : decode cX4_isValue 0 = .ok (.iload_n 0, 1) := by decide +kernel
theorem dX4_isValue_1 : decode cX4_isValue 1 = .ok (.tableswitch 82 0 6 #[43, 51, 58, 82, 82, 66, 74], 43) := by decide +kernel
theorem dX4_isValue_44 : decode cX4_isValue 44 = .ok (.iload_n 1, 1) := by decide +kernel
theorem dX4_isValue_45 : decode cX4_isValue 45 = .ok (.iconst 1, 1) := by decide +kernel
theorem dX4_isValue_46 : decode cX4_isValue 46 = .ok (.ldc 82, 2) := by decide +kernel
theorem dX4_isValue_48 : decode cX4_isValue 48 = .ok (.invokestatic 78, 3) := by decide +kernel
theorem dX4_isValue_51 : decode cX4_isValue 51 = .ok (.ireturn, 1) := by decide +kernel
theorem dX4_isValue_52 : decode cX4_isValue 52 = .ok (.iload_n 1, 1) := by decide +kernel
theorem dX4_isValue_53 : decode cX4_isValue 53 = .ok (.iconst 0, 1) := by decide +kernel
theorem dX4_isValue_54 : decode cX4_isValue 54 = .ok (.iconst 2, 1) := by decide +kernel
theorem dX4_isValue_55 : decode cX4_isValue 55 = .ok (.invokestatic 78, 3) := by decide +kernel
theorem dX4_isValue_58 : decode cX4_isValue 58 = .ok (.ireturn, 1) := by decide +kernel
theorem dX4_isValue_59 : decode cX4_isValue 59 = .ok (.iload_n 1, 1) := by decide +kernel
theorem dX4_isValue_60 : decode cX4_isValue 60 = .ok (.iconst (-1), 1) := by decide +kernel
theorem dX4_isValue_61 : decode cX4_isValue 61 = .ok (.bipush 9, 2) := by decide +kernel
theorem dX4_isValue_63 : decode cX4_isValue 63 = .ok (.invokestatic 78, 3) := by decide +kernel
theorem dX4_isValue_66 : decode cX4_isValue 66 = .ok (.ireturn, 1) := by decide +kernel
theorem dX4_isValue_67 : decode cX4_isValue 67 = .ok (.iload_n 1, 1) := by decide +kernel
theorem dX4_isValue_68 : decode cX4_isValue 68 = .ok (.iconst (-1), 1) := by decide +kernel
theorem dX4_isValue_69 : decode cX4_isValue 69 = .ok (.bipush 7, 2) := by decide +kernel
theorem dX4_isValue_71 : decode cX4_isValue 71 = .ok (.invokestatic 78, 3) := by decide +kernel
theorem dX4_isValue_74 : decode cX4_isValue 74 = .ok (.ireturn, 1) := by decide +kernel
theorem dX4_isValue_75 : decode cX4_isValue 75 = .ok (.iload_n 1, 1) := by decide +kernel
theorem dX4_isValue_76 : decode cX4_isValue 76 = .ok (.iconst (-1), 1) := by decide +kernel
theorem dX4_isValue_77 : decode cX4_isValue 77 = .ok (.bipush 99, 2) := by decide +kernel
theorem dX4_isValue_79 : decode cX4_isValue 79 = .ok (.invokestatic 78, 3) := by decide +kernel
theorem dX4_isValue_82 : decode cX4_isValue 82 = .ok (.ireturn, 1) := by decide +kernel
theorem dX4_isValue_83 : decode cX4_isValue 83 = .ok (.iload_n 1, 1) := by decide +kernel
theorem dX4_isValue_84 : decode cX4_isValue 84 = .ok (.iconst 0, 1) := by decide +kernel
theorem dX4_isValue_85 : decode cX4_isValue 85 = .ok (.iconst 1, 1) := by decide +kernel
theorem dX4_isValue_86 : decode cX4_isValue 86 = .ok (.invokestatic 78, 3) := by decide +kernel
theorem dX4_isValue_89 : decode cX4_isValue 89 = .ok (.ireturn, 1) := by decide +kernel
theorem dX4_set_0 : decode cX4_set 0 = .ok (.aload_n 0, 1) := by decide +kernel
theorem dX4_set_1 : decode cX4_set 1 = .ok (.aload_n 0, 1) := by decide +kernel
theorem dX4_set_2 : decode cX4_set 2 = .ok (.iload_n 1, 1) := by decide +kernel
theorem dX4_set_3 : decode cX4_set 3 = .ok (.invokevirtual 83, 3) := by decide +kernel
theorem dX4_set_6 : decode cX4_set 6 = .ok (.ifCond .ne 7, 3) := by decide +kernel
theorem dX4_set_9 : decode cX4_set 9 = .ok (.iconst 1, 1) := by decide +kernel
theorem dX4_set_10 : decode cX4_set 10 = .ok (.goto 26, 3) := by decide +kernel
theorem dX4_set_13 : decode cX4_set 13 = .ok (.iload_n 2, 1) := by decide +kernel
theorem dX4_set_14 : decode cX4_set 14 = .ok (.iconst 0, 1) := by decide +kernel
theorem dX4_set_15 : decode cX4_set 15 = .ok (.bipush 6, 2) := by decide +kernel
theorem dX4_set_17 : decode cX4_set 17 = .ok (.invokestatic 78, 3) := by decide +kernel
theorem dX4_set_20 : decode cX4_set 20 = .ok (.ifCond .eq 11, 3) := by decide +kernel
theorem dX4_set_23 : decode cX4_set 23 = .ok (.iload_n 2, 1) := by decide +kernel
theorem dX4_set_24 : decode cX4_set 24 = .ok (.iload_n 3, 1) := by decide +kernel
theorem dX4_set_25 : decode cX4_set 25 = .ok (.invokestatic 87, 3) := by decide +kernel
theorem dX4_set_28 : decode cX4_set 28 = .ok (.ifCond .ne 7, 3) := by decide +kernel
theorem dX4_set_31 : decode cX4_set 31 = .ok (.iconst 2, 1) := by decide +kernel
theorem dX4_set_32 : decode cX4_set 32 = .ok (.goto 4, 3) := by decide +kernel
theorem dX4_set_35 : decode cX4_set 35 = .ok (.iconst 0, 1) := by decide +kernel
theorem dX4_set_36 : decode cX4_set 36 = .ok (.putfield 72, 3) := by decide +kernel
theorem dX4_set_39 : decode cX4_set 39 = .ok (.aload_n 0, 1) := by decide +kernel
theorem dX4_set_40 : decode cX4_set 40 = .ok (.getfield 72, 3) := by decide +kernel
theorem dX4_set_43 : decode cX4_set 43 = .ok (.ifCond .eq 5, 3) := by decide +kernel
theorem dX4_set_46 : decode cX4_set 46 = .ok (.iconst 0, 1) := by decide +kernel
theorem dX4_set_47 : decode cX4_set 47 = .ok (.ireturn, 1) := by decide +kernel
theorem dX4_set_48 : decode cX4_set 48 = .ok (.aload_n 0, 1) := by decide +kernel
theorem dX4_set_49 : decode cX4_set 49 = .ok (.iload_n 1, 1) := by decide +kernel
theorem dX4_set_50 : decode cX4_set 50 = .ok (.iload_n 2, 1) := by decide +kernel
theorem dX4_set_51 : decode cX4_set 51 = .ok (.invokevirtual 91, 3) := by decide +kernel
theorem dX4_set_54 : decode cX4_set 54 = .ok (.istore 4, 2) := by decide +kernel
theorem dX4_set_56 : decode cX4_set 56 = .ok (.aload_n 0, 1) := by decide +kernel
theorem dX4_set_57 : decode cX4_set 57 = .ok (.getfield 7, 3) := by decide +kernel
theorem dX4_set_60 : decode cX4_set 60 = .ok (.bipush 7, 2) := by decide +kernel
theorem dX4_set_62 : decode cX4_set 62 = .ok (.iload_n 1, 1) := by decide +kernel
theorem dX4_set_63 : decode cX4_set 63 = .ok (.imul, 1) := by decide +kernel
theorem dX4_set_64 : decode cX4_set 64 = .ok (.iload_n 2, 1) := by decide +kernel
theorem dX4_set_65 : decode cX4_set 65 = .ok (.iadd, 1) := by decide +kernel
theorem dX4_set_66 : decode cX4_set 66 = .ok (.iload_n 3, 1) := by decide +kernel
theorem dX4_set_67 : decode cX4_set 67 = .ok (.iastore, 1) := by decide +kernel
theorem dX4_set_68 : decode cX4_set 68 = .ok (.iload 4, 2) := by decide +kernel
theorem dX4_set_70 : decode cX4_set 70 = .ok (.ireturn, 1) := by decide +kernel
theorem dX4_property_0 : decode cX4_property 0 = .ok (.aload_n 0, 1) := by decide +kernel
theorem dX4_property_1 : decode cX4_property 1 = .ok (.aload_n 0, 1) := by decide +kernel
theorem dX4_property_2 : decode cX4_property 2 = .ok (.iload_n 1, 1) := by decide +kernel
theorem dX4_property_3 : decode cX4_property 3 = .ok (.invokevirtual 83, 3) := by decide +kernel
theorem dX4_property_6 : decode cX4_property 6 = .ok (.ifCond .ne 7, 3) := by decide +kernel
theorem dX4_property_9 : decode cX4_property 9 = .ok (.iconst 1, 1) := by decide +kernel
theorem dX4_property_10 : decode cX4_property 10 = .ok (.goto 18, 3) := by decide +kernel
theorem dX4_property_13 : decode cX4_property 13 = .ok (.iload_n 2, 1) := by decide +kernel
theorem dX4_property_14 : decode cX4_property 14 = .ok (.iconst 0, 1) := by decide +kernel
theorem dX4_property_15 : decode cX4_property 15 = .ok (.bipush 6, 2) := by decide +kernel
theorem dX4_property_17 : decode cX4_property 17 = .ok (.invokestatic 78, 3) := by decide +kernel
theorem dX4_property_20 : decode cX4_property 20 = .ok (.ifCond .ne 7, 3) := by decide +kernel
theorem dX4_property_23 : decode cX4_property 23 = .ok (.iconst 2, 1) := by decide +kernel
theorem dX4_property_24 : decode cX4_property 24 = .ok (.goto 4, 3) := by decide +kernel
theorem dX4_property_27 : decode cX4_property 27 = .ok (.iconst 0, 1) := by decide +kernel
theorem dX4_property_28 : decode cX4_property 28 = .ok (.putfield 72, 3) := by decide +kernel
theorem dX4_property_31 : decode cX4_property 31 = .ok (.aload_n 0, 1) := by decide +kernel
theorem dX4_property_32 : decode cX4_property 32 = .ok (.getfield 72, 3) := by decide +kernel
theorem dX4_property_35 : decode cX4_property 35 = .ok (.ifCond .eq 7, 3) := by decide +kernel
theorem dX4_property_38 : decode cX4_property 38 = .ok (.iconst 0, 1) := by decide +kernel
theorem dX4_property_39 : decode cX4_property 39 = .ok (.goto 9, 3) := by decide +kernel
theorem dX4_property_42 : decode cX4_property 42 = .ok (.aload_n 0, 1) := by decide +kernel
theorem dX4_property_43 : decode cX4_property 43 = .ok (.iload_n 1, 1) := by decide +kernel
theorem dX4_property_44 : decode cX4_property 44 = .ok (.iload_n 2, 1) := by decide +kernel
theorem dX4_property_45 : decode cX4_property 45 = .ok (.invokevirtual 91, 3) := by decide +kernel
theorem dX4_property_48 : decode cX4_property 48 = .ok (.ireturn, 1) := by decide +kernel
theorem dX4_isAsked_0 : decode cX4_isAsked 0 = .ok (.iload_n 0, 1) := by decide +kernel
theorem dX4_isAsked_1 : decode cX4_isAsked 1 = .ok (.iconst 0, 1) := by decide +kernel
theorem dX4_isAsked_2 : decode cX4_isAsked 2 = .ok (.bipush 15, 2) := by decide +kernel
theorem dX4_isAsked_4 : decode cX4_isAsked 4 = .ok (.invokestatic 78, 3) := by decide +kernel
theorem dX4_isAsked_7 : decode cX4_isAsked 7 = .ok (.ifCond .eq 17, 3) := by decide +kernel
theorem dX4_isAsked_10 : decode cX4_isAsked 10 = .ok (.iload_n 1, 1) := by decide +kernel
theorem dX4_isAsked_11 : decode cX4_isAsked 11 = .ok (.iconst (-1), 1) := by decide +kernel
theorem dX4_isAsked_12 : decode cX4_isAsked 12 = .ok (.bipush 9, 2) := by decide +kernel
theorem dX4_isAsked_14 : decode cX4_isAsked 14 = .ok (.invokestatic 78, 3) := by decide +kernel
theorem dX4_isAsked_17 : decode cX4_isAsked 17 = .ok (.ifCond .eq 7, 3) := by decide +kernel
theorem dX4_isAsked_20 : decode cX4_isAsked 20 = .ok (.iconst 1, 1) := by decide +kernel
theorem dX4_isAsked_21 : decode cX4_isAsked 21 = .ok (.goto 4, 3) := by decide +kernel
theorem dX4_isAsked_24 : decode cX4_isAsked 24 = .ok (.iconst 0, 1) := by decide +kernel
theorem dX4_isAsked_25 : decode cX4_isAsked 25 = .ok (.ireturn, 1) := by decide +kernel
theorem dX4_dependAt_0 : decode cX4_dependAt 0 = .ok (.aload_n 0, 1) := by decide +kernel
theorem dX4_dependAt_1 : decode cX4_dependAt 1 = .ok (.getfield 16, 3) := by decide +kernel
theorem dX4_dependAt_4 : decode cX4_dependAt 4 = .ok (.bipush 18, 2) := by decide +kernel
theorem dX4_dependAt_6 : decode cX4_dependAt 6 = .ok (.iload_n 1, 1) := by decide +kernel
theorem dX4_dependAt_7 : decode cX4_dependAt 7 = .ok (.imul, 1) := by decide +kernel
theorem dX4_dependAt_8 : decode cX4_dependAt 8 = .ok (.iconst 3, 1) := by decide +kernel
theorem dX4_dependAt_9 : decode cX4_dependAt 9 = .ok (.iload_n 2, 1) := by decide +kernel
theorem dX4_dependAt_10 : decode cX4_dependAt 10 = .ok (.imul, 1) := by decide +kernel
theorem dX4_dependAt_11 : decode cX4_dependAt 11 = .ok (.iadd, 1) := by decide +kernel
theorem dX4_dependAt_12 : decode cX4_dependAt 12 = .ok (.iload_n 3, 1) := by decide +kernel
theorem dX4_dependAt_13 : decode cX4_dependAt 13 = .ok (.iadd, 1) := by decide +kernel
theorem dX4_dependAt_14 : decode cX4_dependAt 14 = .ok (.iaload, 1) := by decide +kernel
theorem dX4_dependAt_15 : decode cX4_dependAt 15 = .ok (.ireturn, 1) := by decide +kernel
theorem dX4_depend_0 : decode cX4_depend 0 = .ok (.aload_n 0, 1) := by decide +kernel
theorem dX4_depend_1 : decode cX4_depend 1 = .ok (.aload_n 0, 1) := by decide +kernel
theorem dX4_depend_2 : decode cX4_depend 2 = .ok (.iload_n 1, 1) := by decide +kernel
theorem dX4_depend_3 : decode cX4_depend 3 = .ok (.invokevirtual 83, 3) := by decide +kernel
theorem dX4_depend_6 : decode cX4_depend 6 = .ok (.ifCond .ne 7, 3) := by decide +kernel
theorem dX4_depend_9 : decode cX4_depend 9 = .ok (.iconst 1, 1) := by decide +kernel
theorem dX4_depend_10 : decode cX4_depend 10 = .ok (.goto 41, 3) := by decide +kernel
theorem dX4_depend_13 : decode cX4_depend 13 = .ok (.iload_n 2, 1) := by decide +kernel
theorem dX4_depend_14 : decode cX4_depend 14 = .ok (.iload_n 3, 1) := by decide +kernel
theorem dX4_depend_15 : decode cX4_depend 15 = .ok (.invokestatic 95, 3) := by decide +kernel
theorem dX4_depend_18 : decode cX4_depend 18 = .ok (.ifCond .eq 13, 3) := by decide +kernel
theorem dX4_depend_21 : decode cX4_depend 21 = .ok (.iload 4, 2) := by decide +kernel
theorem dX4_depend_23 : decode cX4_depend 23 = .ok (.iconst 0, 1) := by decide +kernel
theorem dX4_depend_24 : decode cX4_depend 24 = .ok (.iconst 3, 1) := by decide +kernel
theorem dX4_depend_25 : decode cX4_depend 25 = .ok (.invokestatic 78, 3) := by decide +kernel
theorem dX4_depend_28 : decode cX4_depend 28 = .ok (.ifCond .ne 7, 3) := by decide +kernel
theorem dX4_depend_31 : decode cX4_depend 31 = .ok (.iconst 2, 1) := by decide +kernel
theorem dX4_depend_32 : decode cX4_depend 32 = .ok (.goto 19, 3) := by decide +kernel
theorem dX4_depend_35 : decode cX4_depend 35 = .ok (.aload_n 0, 1) := by decide +kernel
theorem dX4_depend_36 : decode cX4_depend 36 = .ok (.getfield 13, 3) := by decide +kernel
theorem dX4_depend_39 : decode cX4_depend 39 = .ok (.iload_n 1, 1) := by decide +kernel
theorem dX4_depend_40 : decode cX4_depend 40 = .ok (.iaload, 1) := by decide +kernel
theorem dX4_depend_41 : decode cX4_depend 41 = .ok (.bipush 6, 2) := by decide +kernel
theorem dX4_depend_43 : decode cX4_depend 43 = .ok (.if_icmp .ne 7, 3) := by decide +kernel
theorem dX4_depend_46 : decode cX4_depend 46 = .ok (.iconst 3, 1) := by decide +kernel
theorem dX4_depend_47 : decode cX4_depend 47 = .ok (.goto 4, 3) := by decide +kernel
theorem dX4_depend_50 : decode cX4_depend 50 = .ok (.iconst 0, 1) := by decide +kernel
theorem dX4_depend_51 : decode cX4_depend 51 = .ok (.putfield 72, 3) := by decide +kernel
theorem dX4_depend_54 : decode cX4_depend 54 = .ok (.aload_n 0, 1) := by decide +kernel
theorem dX4_depend_55 : decode cX4_depend 55 = .ok (.getfield 72, 3) := by decide +kernel
theorem dX4_depend_58 : decode cX4_depend 58 = .ok (.ifCond .eq 5, 3) := by decide +kernel
theorem dX4_depend_61 : decode cX4_depend 61 = .ok (.iconst 0, 1) := by decide +kernel
theorem dX4_depend_62 : decode cX4_depend 62 = .ok (.ireturn, 1) := by decide +kernel
theorem dX4_depend_63 : decode cX4_depend 63 = .ok (.bipush 18, 2) := by decide +kernel
theorem dX4_depend_65 : decode cX4_depend 65 = .ok (.iload_n 1, 1) := by decide +kernel
theorem dX4_depend_66 : decode cX4_depend 66 = .ok (.imul, 1) := by decide +kernel
theorem dX4_depend_67 : decode cX4_depend 67 = .ok (.iconst 3, 1) := by decide +kernel
theorem dX4_depend_68 : decode cX4_depend 68 = .ok (.aload_n 0, 1) := by decide +kernel
theorem dX4_depend_69 : decode cX4_depend 69 = .ok (.getfield 13, 3) := by decide +kernel
theorem dX4_depend_72 : decode cX4_depend 72 = .ok (.iload_n 1, 1) := by decide +kernel
theorem dX4_depend_73 : decode cX4_depend 73 = .ok (.iaload, 1) := by decide +kernel
theorem dX4_depend_74 : decode cX4_depend 74 = .ok (.imul, 1) := by decide +kernel
theorem dX4_depend_75 : decode cX4_depend 75 = .ok (.iadd, 1) := by decide +kernel
theorem dX4_depend_76 : decode cX4_depend 76 = .ok (.istore 5, 2) := by decide +kernel
theorem dX4_depend_78 : decode cX4_depend 78 = .ok (.aload_n 0, 1) := by decide +kernel
theorem dX4_depend_79 : decode cX4_depend 79 = .ok (.getfield 16, 3) := by decide +kernel
theorem dX4_depend_82 : decode cX4_depend 82 = .ok (.iload 5, 2) := by decide +kernel
theorem dX4_depend_84 : decode cX4_depend 84 = .ok (.iload_n 2, 1) := by decide +kernel
theorem dX4_depend_85 : decode cX4_depend 85 = .ok (.iastore, 1) := by decide +kernel
theorem dX4_depend_86 : decode cX4_depend 86 = .ok (.aload_n 0, 1) := by decide +kernel
theorem dX4_depend_87 : decode cX4_depend 87 = .ok (.getfield 16, 3) := by decide +kernel
theorem dX4_depend_90 : decode cX4_depend 90 = .ok (.iload 5, 2) := by decide +kernel
theorem dX4_depend_92 : decode cX4_depend 92 = .ok (.iconst 1, 1) := by decide +kernel
theorem dX4_depend_93 : decode cX4_depend 93 = .ok (.iadd, 1) := by decide +kernel
theorem dX4_depend_94 : decode cX4_depend 94 = .ok (.iload_n 3, 1) := by decide +kernel
theorem dX4_depend_95 : decode cX4_depend 95 = .ok (.iastore, 1) := by decide +kernel
theorem dX4_depend_96 : decode cX4_depend 96 = .ok (.aload_n 0, 1) := by decide +kernel
theorem dX4_depend_97 : decode cX4_depend 97 = .ok (.getfield 16, 3) := by decide +kernel
theorem dX4_depend_100 : decode cX4_depend 100 = .ok (.iload 5, 2) := by decide +kernel
theorem dX4_depend_102 : decode cX4_depend 102 = .ok (.iconst 2, 1) := by decide +kernel
theorem dX4_depend_103 : decode cX4_depend 103 = .ok (.iadd, 1) := by decide +kernel
theorem dX4_depend_104 : decode cX4_depend 104 = .ok (.iload 4, 2) := by decide +kernel
theorem dX4_depend_106 : decode cX4_depend 106 = .ok (.iastore, 1) := by decide +kernel
theorem dX4_depend_107 : decode cX4_depend 107 = .ok (.aload_n 0, 1) := by decide +kernel
theorem dX4_depend_108 : decode cX4_depend 108 = .ok (.getfield 13, 3) := by decide +kernel
theorem dX4_depend_111 : decode cX4_depend 111 = .ok (.iload_n 1, 1) := by decide +kernel
theorem dX4_depend_112 : decode cX4_depend 112 = .ok (.dup2, 1) := by decide +kernel
theorem dX4_depend_113 : decode cX4_depend 113 = .ok (.iaload, 1) := by decide +kernel
theorem dX4_depend_114 : decode cX4_depend 114 = .ok (.iconst 1, 1) := by decide +kernel
theorem dX4_depend_115 : decode cX4_depend 115 = .ok (.iadd, 1) := by decide +kernel
theorem dX4_depend_116 : decode cX4_depend 116 = .ok (.iastore, 1) := by decide +kernel
theorem dX4_depend_117 : decode cX4_depend 117 = .ok (.aload_n 0, 1) := by decide +kernel
theorem dX4_depend_118 : decode cX4_depend 118 = .ok (.getfield 13, 3) := by decide +kernel
theorem dX4_depend_121 : decode cX4_depend 121 = .ok (.iload_n 1, 1) := by decide +kernel
theorem dX4_depend_122 : decode cX4_depend 122 = .ok (.iaload, 1) := by decide +kernel
theorem dX4_depend_123 : decode cX4_depend 123 = .ok (.iconst 1, 1) := by decide +kernel
theorem dX4_depend_124 : decode cX4_depend 124 = .ok (.isub, 1) := by decide +kernel
theorem dX4_depend_125 : decode cX4_depend 125 = .ok (.ireturn, 1) := by decide +kernel
theorem dX4_clear_0 : decode cX4_clear 0 = .ok (.aload_n 0, 1) := by decide +kernel
theorem dX4_clear_1 : decode cX4_clear 1 = .ok (.aload_n 0, 1) := by decide +kernel
theorem dX4_clear_2 : decode cX4_clear 2 = .ok (.iload_n 1, 1) := by decide +kernel
theorem dX4_clear_3 : decode cX4_clear 3 = .ok (.invokevirtual 83, 3) := by decide +kernel
theorem dX4_clear_6 : decode cX4_clear 6 = .ok (.ifCond .eq 7, 3) := by decide +kernel
theorem dX4_clear_9 : decode cX4_clear 9 = .ok (.iconst 0, 1) := by decide +kernel
theorem dX4_clear_10 : decode cX4_clear 10 = .ok (.goto 4, 3) := by decide +kernel
theorem dX4_clear_13 : decode cX4_clear 13 = .ok (.iconst 1, 1) := by decide +kernel
theorem dX4_clear_14 : decode cX4_clear 14 = .ok (.putfield 72, 3) := by decide +kernel
theorem dX4_clear_17 : decode cX4_clear 17 = .ok (.aload_n 0, 1) := by decide +kernel
theorem dX4_clear_18 : decode cX4_clear 18 = .ok (.getfield 72, 3) := by decide +kernel
theorem dX4_clear_21 : decode cX4_clear 21 = .ok (.ifCond .eq 5, 3) := by decide +kernel
theorem dX4_clear_24 : decode cX4_clear 24 = .ok (.iconst 0, 1) := by decide +kernel
theorem dX4_clear_25 : decode cX4_clear 25 = .ok (.ireturn, 1) := by decide +kernel
theorem dX4_clear_26 : decode cX4_clear 26 = .ok (.aload_n 0, 1) := by decide +kernel
theorem dX4_clear_27 : decode cX4_clear 27 = .ok (.getfield 13, 3) := by decide +kernel
theorem dX4_clear_30 : decode cX4_clear 30 = .ok (.iload_n 1, 1) := by decide +kernel
theorem dX4_clear_31 : decode cX4_clear 31 = .ok (.iaload, 1) := by decide +kernel
theorem dX4_clear_32 : decode cX4_clear 32 = .ok (.istore_n 2, 1) := by decide +kernel
theorem dX4_clear_33 : decode cX4_clear 33 = .ok (.aload_n 0, 1) := by decide +kernel
theorem dX4_clear_34 : decode cX4_clear 34 = .ok (.getfield 13, 3) := by decide +kernel
theorem dX4_clear_37 : decode cX4_clear 37 = .ok (.iload_n 1, 1) := by decide +kernel
theorem dX4_clear_38 : decode cX4_clear 38 = .ok (.iconst 0, 1) := by decide +kernel
theorem dX4_clear_39 : decode cX4_clear 39 = .ok (.iastore, 1) := by decide +kernel
theorem dX4_clear_40 : decode cX4_clear 40 = .ok (.iload_n 2, 1) := by decide +kernel
theorem dX4_clear_41 : decode cX4_clear 41 = .ok (.ireturn, 1) := by decide +kernel
theorem dX4_dependency_0 : decode cX4_dependency 0 = .ok (.aload_n 0, 1) := by decide +kernel
theorem dX4_dependency_1 : decode cX4_dependency 1 = .ok (.aload_n 0, 1) := by decide +kernel
theorem dX4_dependency_2 : decode cX4_dependency 2 = .ok (.iload_n 1, 1) := by decide +kernel
theorem dX4_dependency_3 : decode cX4_dependency 3 = .ok (.invokevirtual 83, 3) := by decide +kernel
theorem dX4_dependency_6 : decode cX4_dependency 6 = .ok (.ifCond .ne 7, 3) := by decide +kernel
theorem dX4_dependency_9 : decode cX4_dependency 9 = .ok (.iconst 1, 1) := by decide +kernel
theorem dX4_dependency_10 : decode cX4_dependency 10 = .ok (.goto 17, 3) := by decide +kernel
theorem dX4_dependency_13 : decode cX4_dependency 13 = .ok (.iload_n 3, 1) := by decide +kernel
theorem dX4_dependency_14 : decode cX4_dependency 14 = .ok (.iconst 0, 1) := by decide +kernel
theorem dX4_dependency_15 : decode cX4_dependency 15 = .ok (.iconst 2, 1) := by decide +kernel
theorem dX4_dependency_16 : decode cX4_dependency 16 = .ok (.invokestatic 78, 3) := by decide +kernel
theorem dX4_dependency_19 : decode cX4_dependency 19 = .ok (.ifCond .ne 7, 3) := by decide +kernel
theorem dX4_dependency_22 : decode cX4_dependency 22 = .ok (.iconst 2, 1) := by decide +kernel
theorem dX4_dependency_23 : decode cX4_dependency 23 = .ok (.goto 4, 3) := by decide +kernel
theorem dX4_dependency_26 : decode cX4_dependency 26 = .ok (.iconst 0, 1) := by decide +kernel
theorem dX4_dependency_27 : decode cX4_dependency 27 = .ok (.putfield 72, 3) := by decide +kernel
theorem dX4_dependency_30 : decode cX4_dependency 30 = .ok (.aload_n 0, 1) := by decide +kernel
theorem dX4_dependency_31 : decode cX4_dependency 31 = .ok (.getfield 72, 3) := by decide +kernel
theorem dX4_dependency_34 : decode cX4_dependency 34 = .ok (.ifCond .eq 5, 3) := by decide +kernel
theorem dX4_dependency_37 : decode cX4_dependency 37 = .ok (.iconst 0, 1) := by decide +kernel
theorem dX4_dependency_38 : decode cX4_dependency 38 = .ok (.ireturn, 1) := by decide +kernel
theorem dX4_dependency_39 : decode cX4_dependency 39 = .ok (.iload_n 2, 1) := by decide +kernel
theorem dX4_dependency_40 : decode cX4_dependency 40 = .ok (.iconst (-1), 1) := by decide +kernel
theorem dX4_dependency_41 : decode cX4_dependency 41 = .ok (.if_icmp .ne 12, 3) := by decide +kernel
theorem dX4_dependency_44 : decode cX4_dependency 44 = .ok (.aload_n 0, 1) := by decide +kernel
theorem dX4_dependency_45 : decode cX4_dependency 45 = .ok (.getfield 13, 3) := by decide +kernel
theorem dX4_dependency_48 : decode cX4_dependency 48 = .ok (.iload_n 1, 1) := by decide +kernel
theorem dX4_dependency_49 : decode cX4_dependency 49 = .ok (.iaload, 1) := by decide +kernel
theorem dX4_dependency_50 : decode cX4_dependency 50 = .ok (.goto 30, 3) := by decide +kernel
theorem dX4_dependency_53 : decode cX4_dependency 53 = .ok (.iload_n 2, 1) := by decide +kernel
theorem dX4_dependency_54 : decode cX4_dependency 54 = .ok (.iconst 0, 1) := by decide +kernel
theorem dX4_dependency_55 : decode cX4_dependency 55 = .ok (.aload_n 0, 1) := by decide +kernel
theorem dX4_dependency_56 : decode cX4_dependency 56 = .ok (.getfield 13, 3) := by decide +kernel
theorem dX4_dependency_59 : decode cX4_dependency 59 = .ok (.iload_n 1, 1) := by decide +kernel
theorem dX4_dependency_60 : decode cX4_dependency 60 = .ok (.iaload, 1) := by decide +kernel
theorem dX4_dependency_61 : decode cX4_dependency 61 = .ok (.iconst 1, 1) := by decide +kernel
theorem dX4_dependency_62 : decode cX4_dependency 62 = .ok (.isub, 1) := by decide +kernel
theorem dX4_dependency_63 : decode cX4_dependency 63 = .ok (.invokestatic 78, 3) := by decide +kernel
theorem dX4_dependency_66 : decode cX4_dependency 66 = .ok (.ifCond .eq 13, 3) := by decide +kernel
theorem dX4_dependency_69 : decode cX4_dependency 69 = .ok (.aload_n 0, 1) := by decide +kernel
theorem dX4_dependency_70 : decode cX4_dependency 70 = .ok (.iload_n 1, 1) := by decide +kernel
theorem dX4_dependency_71 : decode cX4_dependency 71 = .ok (.iload_n 2, 1) := by decide +kernel
theorem dX4_dependency_72 : decode cX4_dependency 72 = .ok (.iload_n 3, 1) := by decide +kernel
theorem dX4_dependency_73 : decode cX4_dependency 73 = .ok (.invokevirtual 98, 3) := by decide +kernel
theorem dX4_dependency_76 : decode cX4_dependency 76 = .ok (.goto 4, 3) := by decide +kernel
theorem dX4_dependency_79 : decode cX4_dependency 79 = .ok (.iconst (-1), 1) := by decide +kernel
theorem dX4_dependency_80 : decode cX4_dependency 80 = .ok (.ireturn, 1) := by decide +kernel
theorem dX4_profile_0 : decode cX4_profile 0 = .ok (.aload_n 0, 1) := by decide +kernel
theorem dX4_profile_1 : decode cX4_profile 1 = .ok (.iload_n 1, 1) := by decide +kernel
theorem dX4_profile_2 : decode cX4_profile 2 = .ok (.iconst 0, 1) := by decide +kernel
theorem dX4_profile_3 : decode cX4_profile 3 = .ok (.bipush 7, 2) := by decide +kernel
theorem dX4_profile_5 : decode cX4_profile 5 = .ok (.invokestatic 78, 3) := by decide +kernel
theorem dX4_profile_8 : decode cX4_profile 8 = .ok (.ifCond .eq 7, 3) := by decide +kernel
theorem dX4_profile_11 : decode cX4_profile 11 = .ok (.iconst 0, 1) := by decide +kernel
theorem dX4_profile_12 : decode cX4_profile 12 = .ok (.goto 4, 3) := by decide +kernel
theorem dX4_profile_15 : decode cX4_profile 15 = .ok (.iconst 1, 1) := by decide +kernel
theorem dX4_profile_16 : decode cX4_profile 16 = .ok (.putfield 72, 3) := by decide +kernel
theorem dX4_profile_19 : decode cX4_profile 19 = .ok (.aload_n 0, 1) := by decide +kernel
theorem dX4_profile_20 : decode cX4_profile 20 = .ok (.getfield 72, 3) := by decide +kernel
theorem dX4_profile_23 : decode cX4_profile 23 = .ok (.ifCond .eq 5, 3) := by decide +kernel
theorem dX4_profile_26 : decode cX4_profile 26 = .ok (.iconst 0, 1) := by decide +kernel
theorem dX4_profile_27 : decode cX4_profile 27 = .ok (.ireturn, 1) := by decide +kernel
theorem dX4_profile_28 : decode cX4_profile 28 = .ok (.aload_n 0, 1) := by decide +kernel
theorem dX4_profile_29 : decode cX4_profile 29 = .ok (.getfield 102, 3) := by decide +kernel
theorem dX4_profile_32 : decode cX4_profile 32 = .ok (.iload_n 1, 1) := by decide +kernel
theorem dX4_profile_33 : decode cX4_profile 33 = .ok (.ishr, 1) := by decide +kernel
theorem dX4_profile_34 : decode cX4_profile 34 = .ok (.iconst 1, 1) := by decide +kernel
theorem dX4_profile_35 : decode cX4_profile 35 = .ok (.iand, 1) := by decide +kernel
theorem dX4_profile_36 : decode cX4_profile 36 = .ok (.iconst 1, 1) := by decide +kernel
theorem dX4_profile_37 : decode cX4_profile 37 = .ok (.if_icmp .ne 7, 3) := by decide +kernel
theorem dX4_profile_40 : decode cX4_profile 40 = .ok (.iconst 1, 1) := by decide +kernel
theorem dX4_profile_41 : decode cX4_profile 41 = .ok (.goto 4, 3) := by decide +kernel
theorem dX4_profile_44 : decode cX4_profile 44 = .ok (.iconst 0, 1) := by decide +kernel
theorem dX4_profile_45 : decode cX4_profile 45 = .ok (.istore_n 3, 1) := by decide +kernel
theorem dX4_profile_46 : decode cX4_profile 46 = .ok (.aload_n 0, 1) := by decide +kernel
theorem dX4_profile_47 : decode cX4_profile 47 = .ok (.iload_n 2, 1) := by decide +kernel
theorem dX4_profile_48 : decode cX4_profile 48 = .ok (.ifCond .eq 14, 3) := by decide +kernel
theorem dX4_profile_51 : decode cX4_profile 51 = .ok (.aload_n 0, 1) := by decide +kernel
theorem dX4_profile_52 : decode cX4_profile 52 = .ok (.getfield 102, 3) := by decide +kernel
theorem dX4_profile_55 : decode cX4_profile 55 = .ok (.iconst 1, 1) := by decide +kernel
theorem dX4_profile_56 : decode cX4_profile 56 = .ok (.iload_n 1, 1) := by decide +kernel
theorem dX4_profile_57 : decode cX4_profile 57 = .ok (.ishl, 1) := by decide +kernel
theorem dX4_profile_58 : decode cX4_profile 58 = .ok (.ior, 1) := by decide +kernel
theorem dX4_profile_59 : decode cX4_profile 59 = .ok (.goto 13, 3) := by decide +kernel
theorem dX4_profile_62 : decode cX4_profile 62 = .ok (.aload_n 0, 1) := by decide +kernel
theorem dX4_profile_63 : decode cX4_profile 63 = .ok (.getfield 102, 3) := by decide +kernel
theorem dX4_profile_66 : decode cX4_profile 66 = .ok (.iconst 1, 1) := by decide +kernel
theorem dX4_profile_67 : decode cX4_profile 67 = .ok (.iload_n 1, 1) := by decide +kernel
theorem dX4_profile_68 : decode cX4_profile 68 = .ok (.ishl, 1) := by decide +kernel
theorem dX4_profile_69 : decode cX4_profile 69 = .ok (.iconst (-1), 1) := by decide +kernel
theorem dX4_profile_70 : decode cX4_profile 70 = .ok (.ixor, 1) := by decide +kernel
theorem dX4_profile_71 : decode cX4_profile 71 = .ok (.iand, 1) := by decide +kernel
theorem dX4_profile_72 : decode cX4_profile 72 = .ok (.putfield 102, 3) := by decide +kernel
theorem dX4_profile_75 : decode cX4_profile 75 = .ok (.iload_n 3, 1) := by decide +kernel
theorem dX4_profile_76 : decode cX4_profile 76 = .ok (.ireturn, 1) := by decide +kernel
theorem dX4_components_0 : decode cX4_components 0 = .ok (.aload_n 0, 1) := by decide +kernel
theorem dX4_components_1 : decode cX4_components 1 = .ok (.iconst 0, 1) := by decide +kernel
theorem dX4_components_2 : decode cX4_components 2 = .ok (.putfield 72, 3) := by decide +kernel
theorem dX4_components_5 : decode cX4_components 5 = .ok (.aload_n 0, 1) := by decide +kernel
theorem dX4_components_6 : decode cX4_components 6 = .ok (.getfield 75, 3) := by decide +kernel
theorem dX4_components_9 : decode cX4_components 9 = .ok (.ireturn, 1) := by decide +kernel
theorem dX4_isActive_0 : decode cX4_isActive 0 = .ok (.aload_n 0, 1) := by decide +kernel
theorem dX4_isActive_1 : decode cX4_isActive 1 = .ok (.iload_n 1, 1) := by decide +kernel
theorem dX4_isActive_2 : decode cX4_isActive 2 = .ok (.iconst 5, 1) := by decide +kernel
theorem dX4_isActive_3 : decode cX4_isActive 3 = .ok (.invokevirtual 91, 3) := by decide +kernel
theorem dX4_isActive_6 : decode cX4_isActive 6 = .ok (.iconst (-1), 1) := by decide +kernel
theorem dX4_isActive_7 : decode cX4_isActive 7 = .ok (.if_icmp .eq 20, 3) := by decide +kernel
theorem dX4_isActive_10 : decode cX4_isActive 10 = .ok (.aload_n 0, 1) := by decide +kernel
theorem dX4_isActive_11 : decode cX4_isActive 11 = .ok (.getfield 102, 3) := by decide +kernel
theorem dX4_isActive_14 : decode cX4_isActive 14 = .ok (.aload_n 0, 1) := by decide +kernel
theorem dX4_isActive_15 : decode cX4_isActive 15 = .ok (.iload_n 1, 1) := by decide +kernel
theorem dX4_isActive_16 : decode cX4_isActive 16 = .ok (.iconst 5, 1) := by decide +kernel
theorem dX4_isActive_17 : decode cX4_isActive 17 = .ok (.invokevirtual 91, 3) := by decide +kernel
theorem dX4_isActive_20 : decode cX4_isActive 20 = .ok (.ishr, 1) := by decide +kernel
theorem dX4_isActive_21 : decode cX4_isActive 21 = .ok (.iconst 1, 1) := by decide +kernel
theorem dX4_isActive_22 : decode cX4_isActive 22 = .ok (.iand, 1) := by decide +kernel
theorem dX4_isActive_23 : decode cX4_isActive 23 = .ok (.iconst 1, 1) := by decide +kernel
theorem dX4_isActive_24 : decode cX4_isActive 24 = .ok (.if_icmp .ne 7, 3) := by decide +kernel
theorem dX4_isActive_27 : decode cX4_isActive 27 = .ok (.iconst 1, 1) := by decide +kernel
theorem dX4_isActive_28 : decode cX4_isActive 28 = .ok (.goto 4, 3) := by decide +kernel
theorem dX4_isActive_31 : decode cX4_isActive 31 = .ok (.iconst 0, 1) := by decide +kernel
theorem dX4_isActive_32 : decode cX4_isActive 32 = .ok (.ireturn, 1) := by decide +kernel
theorem dX4_candidatesFor_0 : decode cX4_candidatesFor 0 = .ok (.iconst 0, 1) := by decide +kernel
theorem dX4_candidatesFor_1 : decode cX4_candidatesFor 1 = .ok (.istore_n 3, 1) := by decide +kernel
theorem dX4_candidatesFor_2 : decode cX4_candidatesFor 2 = .ok (.iconst 0, 1) := by decide +kernel
theorem dX4_candidatesFor_3 : decode cX4_candidatesFor 3 = .ok (.istore 4, 2) := by decide +kernel
theorem dX4_candidatesFor_5 : decode cX4_candidatesFor 5 = .ok (.iload 4, 2) := by decide +kernel
theorem dX4_candidatesFor_7 : decode cX4_candidatesFor 7 = .ok (.aload_n 0, 1) := by decide +kernel
theorem dX4_candidatesFor_8 : decode cX4_candidatesFor 8 = .ok (.getfield 75, 3) := by decide +kernel
theorem dX4_candidatesFor_11 : decode cX4_candidatesFor 11 = .ok (.if_icmp .ge 72, 3) := by decide +kernel
theorem dX4_candidatesFor_14 : decode cX4_candidatesFor 14 = .ok (.aload_n 0, 1) := by decide +kernel
theorem dX4_candidatesFor_15 : decode cX4_candidatesFor 15 = .ok (.iload 4, 2) := by decide +kernel
theorem dX4_candidatesFor_17 : decode cX4_candidatesFor 17 = .ok (.invokevirtual 105, 3) := by decide +kernel
theorem dX4_candidatesFor_20 : decode cX4_candidatesFor 20 = .ok (.ifCond .eq 38, 3) := by decide +kernel
theorem dX4_candidatesFor_23 : decode cX4_candidatesFor 23 = .ok (.aload_n 0, 1) := by decide +kernel
theorem dX4_candidatesFor_24 : decode cX4_candidatesFor 24 = .ok (.iload 4, 2) := by decide +kernel
theorem dX4_candidatesFor_26 : decode cX4_candidatesFor 26 = .ok (.iconst 0, 1) := by decide +kernel
theorem dX4_candidatesFor_27 : decode cX4_candidatesFor 27 = .ok (.invokevirtual 91, 3) := by decide +kernel
theorem dX4_candidatesFor_30 : decode cX4_candidatesFor 30 = .ok (.iload_n 1, 1) := by decide +kernel
theorem dX4_candidatesFor_31 : decode cX4_candidatesFor 31 = .ok (.ishr, 1) := by decide +kernel
theorem dX4_candidatesFor_32 : decode cX4_candidatesFor 32 = .ok (.iconst 1, 1) := by decide +kernel
theorem dX4_candidatesFor_33 : decode cX4_candidatesFor 33 = .ok (.iand, 1) := by decide +kernel
theorem dX4_candidatesFor_34 : decode cX4_candidatesFor 34 = .ok (.iconst 1, 1) := by decide +kernel
theorem dX4_candidatesFor_35 : decode cX4_candidatesFor 35 = .ok (.if_icmp .ne 23, 3) := by decide +kernel
theorem dX4_candidatesFor_38 : decode cX4_candidatesFor 38 = .ok (.iload_n 2, 1) := by decide +kernel
theorem dX4_candidatesFor_39 : decode cX4_candidatesFor 39 = .ok (.iconst (-1), 1) := by decide +kernel
theorem dX4_candidatesFor_40 : decode cX4_candidatesFor 40 = .ok (.if_icmp .eq 14, 3) := by decide +kernel
theorem dX4_candidatesFor_43 : decode cX4_candidatesFor 43 = .ok (.aload_n 0, 1) := by decide +kernel
theorem dX4_candidatesFor_44 : decode cX4_candidatesFor 44 = .ok (.iload 4, 2) := by decide +kernel
theorem dX4_candidatesFor_46 : decode cX4_candidatesFor 46 = .ok (.iconst 2, 1) := by decide +kernel
theorem dX4_candidatesFor_47 : decode cX4_candidatesFor 47 = .ok (.invokevirtual 91, 3) := by decide +kernel
theorem dX4_candidatesFor_50 : decode cX4_candidatesFor 50 = .ok (.iload_n 2, 1) := by decide +kernel
theorem dX4_candidatesFor_51 : decode cX4_candidatesFor 51 = .ok (.if_icmp .ne 7, 3) := by decide +kernel
theorem dX4_candidatesFor_54 : decode cX4_candidatesFor 54 = .ok (.iconst 1, 1) := by decide +kernel
theorem dX4_candidatesFor_55 : decode cX4_candidatesFor 55 = .ok (.goto 4, 3) := by decide +kernel
theorem dX4_candidatesFor_58 : decode cX4_candidatesFor 58 = .ok (.iconst 0, 1) := by decide +kernel
theorem dX4_candidatesFor_59 : decode cX4_candidatesFor 59 = .ok (.istore 5, 2) := by decide +kernel
theorem dX4_candidatesFor_61 : decode cX4_candidatesFor 61 = .ok (.iload_n 3, 1) := by decide +kernel
theorem dX4_candidatesFor_62 : decode cX4_candidatesFor 62 = .ok (.iload 5, 2) := by decide +kernel
theorem dX4_candidatesFor_64 : decode cX4_candidatesFor 64 = .ok (.ifCond .eq 10, 3) := by decide +kernel
theorem dX4_candidatesFor_67 : decode cX4_candidatesFor 67 = .ok (.iconst 1, 1) := by decide +kernel
theorem dX4_candidatesFor_68 : decode cX4_candidatesFor 68 = .ok (.iload 4, 2) := by decide +kernel
theorem dX4_candidatesFor_70 : decode cX4_candidatesFor 70 = .ok (.ishl, 1) := by decide +kernel
theorem dX4_candidatesFor_71 : decode cX4_candidatesFor 71 = .ok (.goto 4, 3) := by decide +kernel
theorem dX4_candidatesFor_74 : decode cX4_candidatesFor 74 = .ok (.iconst 0, 1) := by decide +kernel
theorem dX4_candidatesFor_75 : decode cX4_candidatesFor 75 = .ok (.ior, 1) := by decide +kernel
theorem dX4_candidatesFor_76 : decode cX4_candidatesFor 76 = .ok (.istore_n 3, 1) := by decide +kernel
theorem dX4_candidatesFor_77 : decode cX4_candidatesFor 77 = .ok (.iinc 4 1, 3) := by decide +kernel
theorem dX4_candidatesFor_80 : decode cX4_candidatesFor 80 = .ok (.goto (-75), 3) := by decide +kernel
theorem dX4_candidatesFor_83 : decode cX4_candidatesFor 83 = .ok (.iload_n 3, 1) := by decide +kernel
theorem dX4_candidatesFor_84 : decode cX4_candidatesFor 84 = .ok (.ireturn, 1) := by decide +kernel
theorem dX4_bits_0 : decode cX4_bits 0 = .ok (.iconst 0, 1) := by decide +kernel
theorem dX4_bits_1 : decode cX4_bits 1 = .ok (.istore_n 1, 1) := by decide +kernel
theorem dX4_bits_2 : decode cX4_bits 2 = .ok (.iconst 0, 1) := by decide +kernel
theorem dX4_bits_3 : decode cX4_bits 3 = .ok (.istore_n 2, 1) := by decide +kernel
theorem dX4_bits_4 : decode cX4_bits 4 = .ok (.iload_n 2, 1) := by decide +kernel
theorem dX4_bits_5 : decode cX4_bits 5 = .ok (.bipush 20, 2) := by decide +kernel
theorem dX4_bits_7 : decode cX4_bits 7 = .ok (.if_icmp .ge 17, 3) := by decide +kernel
theorem dX4_bits_10 : decode cX4_bits 10 = .ok (.iload_n 1, 1) := by decide +kernel
theorem dX4_bits_11 : decode cX4_bits 11 = .ok (.iload_n 0, 1) := by decide +kernel
theorem dX4_bits_12 : decode cX4_bits 12 = .ok (.iload_n 2, 1) := by decide +kernel
theorem dX4_bits_13 : decode cX4_bits 13 = .ok (.ishr, 1) := by decide +kernel
theorem dX4_bits_14 : decode cX4_bits 14 = .ok (.iconst 1, 1) := by decide +kernel
theorem dX4_bits_15 : decode cX4_bits 15 = .ok (.iand, 1) := by decide +kernel
theorem dX4_bits_16 : decode cX4_bits 16 = .ok (.iadd, 1) := by decide +kernel
theorem dX4_bits_17 : decode cX4_bits 17 = .ok (.istore_n 1, 1) := by decide +kernel
theorem dX4_bits_18 : decode cX4_bits 18 = .ok (.iinc 2 1, 3) := by decide +kernel
theorem dX4_bits_21 : decode cX4_bits 21 = .ok (.goto (-17), 3) := by decide +kernel
theorem dX4_bits_24 : decode cX4_bits 24 = .ok (.iload_n 1, 1) := by decide +kernel
theorem dX4_bits_25 : decode cX4_bits 25 = .ok (.ireturn, 1) := by decide +kernel
theorem dX4_lowest_0 : decode cX4_lowest 0 = .ok (.iconst 0, 1) := by decide +kernel
theorem dX4_lowest_1 : decode cX4_lowest 1 = .ok (.istore_n 1, 1) := by decide +kernel
theorem dX4_lowest_2 : decode cX4_lowest 2 = .ok (.iload_n 0, 1) := by decide +kernel
theorem dX4_lowest_3 : decode cX4_lowest 3 = .ok (.iload_n 1, 1) := by decide +kernel
theorem dX4_lowest_4 : decode cX4_lowest 4 = .ok (.ishr, 1) := by decide +kernel
theorem dX4_lowest_5 : decode cX4_lowest 5 = .ok (.iconst 1, 1) := by decide +kernel
theorem dX4_lowest_6 : decode cX4_lowest 6 = .ok (.iand, 1) := by decide +kernel
theorem dX4_lowest_7 : decode cX4_lowest 7 = .ok (.ifCond .ne 9, 3) := by decide +kernel
theorem dX4_lowest_10 : decode cX4_lowest 10 = .ok (.iinc 1 1, 3) := by decide +kernel
theorem dX4_lowest_13 : decode cX4_lowest 13 = .ok (.goto (-11), 3) := by decide +kernel
theorem dX4_lowest_16 : decode cX4_lowest 16 = .ok (.iload_n 1, 1) := by decide +kernel
theorem dX4_lowest_17 : decode cX4_lowest 17 = .ok (.ireturn, 1) := by decide +kernel
theorem dX4_choose_0 : decode cX4_choose 0 = .ok (.aload_n 0, 1) := by decide +kernel
theorem dX4_choose_1 : decode cX4_choose 1 = .ok (.iload_n 1, 1) := by decide +kernel
theorem dX4_choose_2 : decode cX4_choose 2 = .ok (.iload_n 2, 1) := by decide +kernel
theorem dX4_choose_3 : decode cX4_choose 3 = .ok (.invokevirtual 108, 3) := by decide +kernel
theorem dX4_choose_6 : decode cX4_choose 6 = .ok (.istore_n 3, 1) := by decide +kernel
theorem dX4_choose_7 : decode cX4_choose 7 = .ok (.iload_n 3, 1) := by decide +kernel
theorem dX4_choose_8 : decode cX4_choose 8 = .ok (.ifCond .ne 5, 3) := by decide +kernel
theorem dX4_choose_11 : decode cX4_choose 11 = .ok (.iconst (-1), 1) := by decide +kernel
theorem dX4_choose_12 : decode cX4_choose 12 = .ok (.ireturn, 1) := by decide +kernel
theorem dX4_choose_13 : decode cX4_choose 13 = .ok (.iload_n 3, 1) := by decide +kernel
theorem dX4_choose_14 : decode cX4_choose 14 = .ok (.invokestatic 111, 3) := by decide +kernel
theorem dX4_choose_17 : decode cX4_choose 17 = .ok (.iconst 1, 1) := by decide +kernel
theorem dX4_choose_18 : decode cX4_choose 18 = .ok (.if_icmp .ne 8, 3) := by decide +kernel
theorem dX4_choose_21 : decode cX4_choose 21 = .ok (.iload_n 3, 1) := by decide +kernel
theorem dX4_choose_22 : decode cX4_choose 22 = .ok (.invokestatic 115, 3) := by decide +kernel
theorem dX4_choose_25 : decode cX4_choose 25 = .ok (.ireturn, 1) := by decide +kernel
theorem dX4_choose_26 : decode cX4_choose 26 = .ok (.iconst 0, 1) := by decide +kernel
theorem dX4_choose_27 : decode cX4_choose 27 = .ok (.istore 4, 2) := by decide +kernel
theorem dX4_choose_29 : decode cX4_choose 29 = .ok (.iconst 0, 1) := by decide +kernel
theorem dX4_choose_30 : decode cX4_choose 30 = .ok (.istore 5, 2) := by decide +kernel
theorem dX4_choose_32 : decode cX4_choose 32 = .ok (.iload 5, 2) := by decide +kernel
theorem dX4_choose_34 : decode cX4_choose 34 = .ok (.aload_n 0, 1) := by decide +kernel
theorem dX4_choose_35 : decode cX4_choose 35 = .ok (.getfield 75, 3) := by decide +kernel
theorem dX4_choose_38 : decode cX4_choose 38 = .ok (.if_icmp .ge 43, 3) := by decide +kernel
theorem dX4_choose_41 : decode cX4_choose 41 = .ok (.iload 4, 2) := by decide +kernel
theorem dX4_choose_43 : decode cX4_choose 43 = .ok (.iload_n 3, 1) := by decide +kernel
theorem dX4_choose_44 : decode cX4_choose 44 = .ok (.iload 5, 2) := by decide +kernel
theorem dX4_choose_46 : decode cX4_choose 46 = .ok (.ishr, 1) := by decide +kernel
theorem dX4_choose_47 : decode cX4_choose 47 = .ok (.iconst 1, 1) := by decide +kernel
theorem dX4_choose_48 : decode cX4_choose 48 = .ok (.iand, 1) := by decide +kernel
theorem dX4_choose_49 : decode cX4_choose 49 = .ok (.iconst 1, 1) := by decide +kernel
theorem dX4_choose_50 : decode cX4_choose 50 = .ok (.if_icmp .ne 21, 3) := by decide +kernel
theorem dX4_choose_53 : decode cX4_choose 53 = .ok (.aload_n 0, 1) := by decide +kernel
theorem dX4_choose_54 : decode cX4_choose 54 = .ok (.iload 5, 2) := by decide +kernel
theorem dX4_choose_56 : decode cX4_choose 56 = .ok (.iconst 3, 1) := by decide +kernel
theorem dX4_choose_57 : decode cX4_choose 57 = .ok (.invokevirtual 91, 3) := by decide +kernel
theorem dX4_choose_60 : decode cX4_choose 60 = .ok (.iconst 1, 1) := by decide +kernel
theorem dX4_choose_61 : decode cX4_choose 61 = .ok (.if_icmp .ne 10, 3) := by decide +kernel
theorem dX4_choose_64 : decode cX4_choose 64 = .ok (.iconst 1, 1) := by decide +kernel
theorem dX4_choose_65 : decode cX4_choose 65 = .ok (.iload 5, 2) := by decide +kernel
theorem dX4_choose_67 : decode cX4_choose 67 = .ok (.ishl, 1) := by decide +kernel
theorem dX4_choose_68 : decode cX4_choose 68 = .ok (.goto 4, 3) := by decide +kernel
theorem dX4_choose_71 : decode cX4_choose 71 = .ok (.iconst 0, 1) := by decide +kernel
theorem dX4_choose_72 : decode cX4_choose 72 = .ok (.ior, 1) := by decide +kernel
theorem dX4_choose_73 : decode cX4_choose 73 = .ok (.istore 4, 2) := by decide +kernel
theorem dX4_choose_75 : decode cX4_choose 75 = .ok (.iinc 5 1, 3) := by decide +kernel
theorem dX4_choose_78 : decode cX4_choose 78 = .ok (.goto (-46), 3) := by decide +kernel
theorem dX4_choose_81 : decode cX4_choose 81 = .ok (.iload 4, 2) := by decide +kernel
theorem dX4_choose_83 : decode cX4_choose 83 = .ok (.invokestatic 111, 3) := by decide +kernel
theorem dX4_choose_86 : decode cX4_choose 86 = .ok (.iconst 1, 1) := by decide +kernel
theorem dX4_choose_87 : decode cX4_choose 87 = .ok (.if_icmp .ne 11, 3) := by decide +kernel
theorem dX4_choose_90 : decode cX4_choose 90 = .ok (.iload 4, 2) := by decide +kernel
theorem dX4_choose_92 : decode cX4_choose 92 = .ok (.invokestatic 115, 3) := by decide +kernel
theorem dX4_choose_95 : decode cX4_choose 95 = .ok (.goto 5, 3) := by decide +kernel
theorem dX4_choose_98 : decode cX4_choose 98 = .ok (.bipush (-2), 2) := by decide +kernel
theorem dX4_choose_100 : decode cX4_choose 100 = .ok (.ireturn, 1) := by decide +kernel
theorem dX4_candidates_0 : decode cX4_candidates 0 = .ok (.aload_n 0, 1) := by decide +kernel
theorem dX4_candidates_1 : decode cX4_candidates 1 = .ok (.iload_n 1, 1) := by decide +kernel
theorem dX4_candidates_2 : decode cX4_candidates 2 = .ok (.iload_n 2, 1) := by decide +kernel
theorem dX4_candidates_3 : decode cX4_candidates 3 = .ok (.invokestatic 95, 3) := by decide +kernel
theorem dX4_candidates_6 : decode cX4_candidates 6 = .ok (.ifCond .eq 7, 3) := by decide +kernel
theorem dX4_candidates_9 : decode cX4_candidates 9 = .ok (.iconst 0, 1) := by decide +kernel
theorem dX4_candidates_10 : decode cX4_candidates 10 = .ok (.goto 4, 3) := by decide +kernel
theorem dX4_candidates_13 : decode cX4_candidates 13 = .ok (.iconst 1, 1) := by decide +kernel
theorem dX4_candidates_14 : decode cX4_candidates 14 = .ok (.putfield 72, 3) := by decide +kernel
theorem dX4_candidates_17 : decode cX4_candidates 17 = .ok (.aload_n 0, 1) := by decide +kernel
theorem dX4_candidates_18 : decode cX4_candidates 18 = .ok (.getfield 72, 3) := by decide +kernel
theorem dX4_candidates_21 : decode cX4_candidates 21 = .ok (.ifCond .eq 7, 3) := by decide +kernel
theorem dX4_candidates_24 : decode cX4_candidates 24 = .ok (.iconst 0, 1) := by decide +kernel
theorem dX4_candidates_25 : decode cX4_candidates 25 = .ok (.goto 9, 3) := by decide +kernel
theorem dX4_candidates_28 : decode cX4_candidates 28 = .ok (.aload_n 0, 1) := by decide +kernel
theorem dX4_candidates_29 : decode cX4_candidates 29 = .ok (.iload_n 1, 1) := by decide +kernel
theorem dX4_candidates_30 : decode cX4_candidates 30 = .ok (.iload_n 2, 1) := by decide +kernel
theorem dX4_candidates_31 : decode cX4_candidates 31 = .ok (.invokevirtual 108, 3) := by decide +kernel
theorem dX4_candidates_34 : decode cX4_candidates 34 = .ok (.ireturn, 1) := by decide +kernel
theorem dX4_chosen_0 : decode cX4_chosen 0 = .ok (.aload_n 0, 1) := by decide +kernel
theorem dX4_chosen_1 : decode cX4_chosen 1 = .ok (.iload_n 1, 1) := by decide +kernel
theorem dX4_chosen_2 : decode cX4_chosen 2 = .ok (.iload_n 2, 1) := by decide +kernel
theorem dX4_chosen_3 : decode cX4_chosen 3 = .ok (.invokestatic 95, 3) := by decide +kernel
theorem dX4_chosen_6 : decode cX4_chosen 6 = .ok (.ifCond .eq 7, 3) := by decide +kernel
theorem dX4_chosen_9 : decode cX4_chosen 9 = .ok (.iconst 0, 1) := by decide +kernel
theorem dX4_chosen_10 : decode cX4_chosen 10 = .ok (.goto 4, 3) := by decide +kernel
theorem dX4_chosen_13 : decode cX4_chosen 13 = .ok (.iconst 1, 1) := by decide +kernel
theorem dX4_chosen_14 : decode cX4_chosen 14 = .ok (.putfield 72, 3) := by decide +kernel
theorem dX4_chosen_17 : decode cX4_chosen 17 = .ok (.aload_n 0, 1) := by decide +kernel
theorem dX4_chosen_18 : decode cX4_chosen 18 = .ok (.getfield 72, 3) := by decide +kernel
theorem dX4_chosen_21 : decode cX4_chosen 21 = .ok (.ifCond .eq 5, 3) := by decide +kernel
theorem dX4_chosen_24 : decode cX4_chosen 24 = .ok (.iconst 0, 1) := by decide +kernel
theorem dX4_chosen_25 : decode cX4_chosen 25 = .ok (.ireturn, 1) := by decide +kernel
theorem dX4_chosen_26 : decode cX4_chosen 26 = .ok (.aload_n 0, 1) := by decide +kernel
theorem dX4_chosen_27 : decode cX4_chosen 27 = .ok (.iload_n 1, 1) := by decide +kernel
theorem dX4_chosen_28 : decode cX4_chosen 28 = .ok (.iload_n 2, 1) := by decide +kernel
theorem dX4_chosen_29 : decode cX4_chosen 29 = .ok (.invokevirtual 118, 3) := by decide +kernel
theorem dX4_chosen_32 : decode cX4_chosen 32 = .ok (.istore_n 3, 1) := by decide +kernel
theorem dX4_chosen_33 : decode cX4_chosen 33 = .ok (.iload_n 3, 1) := by decide +kernel
theorem dX4_chosen_34 : decode cX4_chosen 34 = .ok (.ifCond .ge 7, 3) := by decide +kernel
theorem dX4_chosen_37 : decode cX4_chosen 37 = .ok (.iconst (-1), 1) := by decide +kernel
theorem dX4_chosen_38 : decode cX4_chosen 38 = .ok (.goto 4, 3) := by decide +kernel
theorem dX4_chosen_41 : decode cX4_chosen 41 = .ok (.iload_n 3, 1) := by decide +kernel
theorem dX4_chosen_42 : decode cX4_chosen 42 = .ok (.ireturn, 1) := by decide +kernel
theorem dX4_isInFrames_0 : decode cX4_isInFrames 0 = .ok (.iconst 0, 1) := by decide +kernel
theorem dX4_isInFrames_1 : decode cX4_isInFrames 1 = .ok (.istore_n 2, 1) := by decide +kernel
theorem dX4_isInFrames_2 : decode cX4_isInFrames 2 = .ok (.iconst 0, 1) := by decide +kernel
theorem dX4_isInFrames_3 : decode cX4_isInFrames 3 = .ok (.istore_n 3, 1) := by decide +kernel
theorem dX4_isInFrames_4 : decode cX4_isInFrames 4 = .ok (.iload_n 3, 1) := by decide +kernel
theorem dX4_isInFrames_5 : decode cX4_isInFrames 5 = .ok (.aload_n 0, 1) := by decide +kernel
theorem dX4_isInFrames_6 : decode cX4_isInFrames 6 = .ok (.getfield 121, 3) := by decide +kernel
theorem dX4_isInFrames_9 : decode cX4_isInFrames 9 = .ok (.if_icmp .ge 29, 3) := by decide +kernel
theorem dX4_isInFrames_12 : decode cX4_isInFrames 12 = .ok (.iload_n 2, 1) := by decide +kernel
theorem dX4_isInFrames_13 : decode cX4_isInFrames 13 = .ok (.ifCond .ne 13, 3) := by decide +kernel
theorem dX4_isInFrames_16 : decode cX4_isInFrames 16 = .ok (.aload_n 0, 1) := by decide +kernel
theorem dX4_isInFrames_17 : decode cX4_isInFrames 17 = .ok (.getfield 22, 3) := by decide +kernel
theorem dX4_isInFrames_20 : decode cX4_isInFrames 20 = .ok (.iload_n 3, 1) := by decide +kernel
theorem dX4_isInFrames_21 : decode cX4_isInFrames 21 = .ok (.iaload, 1) := by decide +kernel
theorem dX4_isInFrames_22 : decode cX4_isInFrames 22 = .ok (.iload_n 1, 1) := by decide +kernel
theorem dX4_isInFrames_23 : decode cX4_isInFrames 23 = .ok (.if_icmp .ne 7, 3) := by decide +kernel
theorem dX4_isInFrames_26 : decode cX4_isInFrames 26 = .ok (.iconst 1, 1) := by decide +kernel
theorem dX4_isInFrames_27 : decode cX4_isInFrames 27 = .ok (.goto 4, 3) := by decide +kernel
theorem dX4_isInFrames_30 : decode cX4_isInFrames 30 = .ok (.iconst 0, 1) := by decide +kernel
theorem dX4_isInFrames_31 : decode cX4_isInFrames 31 = .ok (.istore_n 2, 1) := by decide +kernel
theorem dX4_isInFrames_32 : decode cX4_isInFrames 32 = .ok (.iinc 3 1, 3) := by decide +kernel
theorem dX4_isInFrames_35 : decode cX4_isInFrames 35 = .ok (.goto (-31), 3) := by decide +kernel
theorem dX4_isInFrames_38 : decode cX4_isInFrames 38 = .ok (.iload_n 2, 1) := by decide +kernel
theorem dX4_isInFrames_39 : decode cX4_isInFrames 39 = .ok (.ireturn, 1) := by decide +kernel
theorem dX4_push_0 : decode cX4_push 0 = .ok (.aload_n 0, 1) := by decide +kernel
theorem dX4_push_1 : decode cX4_push 1 = .ok (.getfield 22, 3) := by decide +kernel
theorem dX4_push_4 : decode cX4_push 4 = .ok (.aload_n 0, 1) := by decide +kernel
theorem dX4_push_5 : decode cX4_push 5 = .ok (.getfield 121, 3) := by decide +kernel
theorem dX4_push_8 : decode cX4_push 8 = .ok (.iload_n 1, 1) := by decide +kernel
theorem dX4_push_9 : decode cX4_push 9 = .ok (.iastore, 1) := by decide +kernel
theorem dX4_push_10 : decode cX4_push 10 = .ok (.aload_n 0, 1) := by decide +kernel
theorem dX4_push_11 : decode cX4_push 11 = .ok (.getfield 25, 3) := by decide +kernel
theorem dX4_push_14 : decode cX4_push 14 = .ok (.aload_n 0, 1) := by decide +kernel
theorem dX4_push_15 : decode cX4_push 15 = .ok (.getfield 121, 3) := by decide +kernel
theorem dX4_push_18 : decode cX4_push 18 = .ok (.iconst 0, 1) := by decide +kernel
theorem dX4_push_19 : decode cX4_push 19 = .ok (.iastore, 1) := by decide +kernel
theorem dX4_push_20 : decode cX4_push 20 = .ok (.aload_n 0, 1) := by decide +kernel
theorem dX4_push_21 : decode cX4_push 21 = .ok (.getfield 28, 3) := by decide +kernel
theorem dX4_push_24 : decode cX4_push 24 = .ok (.aload_n 0, 1) := by decide +kernel
theorem dX4_push_25 : decode cX4_push 25 = .ok (.getfield 121, 3) := by decide +kernel
theorem dX4_push_28 : decode cX4_push 28 = .ok (.iconst 0, 1) := by decide +kernel
theorem dX4_push_29 : decode cX4_push 29 = .ok (.iastore, 1) := by decide +kernel
theorem dX4_push_30 : decode cX4_push 30 = .ok (.aload_n 0, 1) := by decide +kernel
theorem dX4_push_31 : decode cX4_push 31 = .ok (.dup, 1) := by decide +kernel
theorem dX4_push_32 : decode cX4_push 32 = .ok (.getfield 121, 3) := by decide +kernel
theorem dX4_push_35 : decode cX4_push 35 = .ok (.iconst 1, 1) := by decide +kernel
theorem dX4_push_36 : decode cX4_push 36 = .ok (.iadd, 1) := by decide +kernel
theorem dX4_push_37 : decode cX4_push 37 = .ok (.putfield 121, 3) := by decide +kernel
theorem dX4_push_40 : decode cX4_push 40 = .ok (.return_, 1) := by decide +kernel
theorem dX4_wanted_0 : decode cX4_wanted 0 = .ok (.aload_n 0, 1) := by decide +kernel
theorem dX4_wanted_1 : decode cX4_wanted 1 = .ok (.iload_n 1, 1) := by decide +kernel
theorem dX4_wanted_2 : decode cX4_wanted 2 = .ok (.iload_n 2, 1) := by decide +kernel
theorem dX4_wanted_3 : decode cX4_wanted 3 = .ok (.iconst 2, 1) := by decide +kernel
theorem dX4_wanted_4 : decode cX4_wanted 4 = .ok (.invokevirtual 98, 3) := by decide +kernel
theorem dX4_wanted_7 : decode cX4_wanted 7 = .ok (.istore_n 3, 1) := by decide +kernel
theorem dX4_wanted_8 : decode cX4_wanted 8 = .ok (.aload_n 0, 1) := by decide +kernel
theorem dX4_wanted_9 : decode cX4_wanted 9 = .ok (.iload_n 1, 1) := by decide +kernel
theorem dX4_wanted_10 : decode cX4_wanted 10 = .ok (.iload_n 2, 1) := by decide +kernel
theorem dX4_wanted_11 : decode cX4_wanted 11 = .ok (.iconst 0, 1) := by decide +kernel
theorem dX4_wanted_12 : decode cX4_wanted 12 = .ok (.invokevirtual 98, 3) := by decide +kernel
theorem dX4_wanted_15 : decode cX4_wanted 15 = .ok (.istore 4, 2) := by decide +kernel
theorem dX4_wanted_17 : decode cX4_wanted 17 = .ok (.aload_n 0, 1) := by decide +kernel
theorem dX4_wanted_18 : decode cX4_wanted 18 = .ok (.iload_n 1, 1) := by decide +kernel
theorem dX4_wanted_19 : decode cX4_wanted 19 = .ok (.iload_n 2, 1) := by decide +kernel
theorem dX4_wanted_20 : decode cX4_wanted 20 = .ok (.iconst 1, 1) := by decide +kernel
theorem dX4_wanted_21 : decode cX4_wanted 21 = .ok (.invokevirtual 98, 3) := by decide +kernel
theorem dX4_wanted_24 : decode cX4_wanted 24 = .ok (.istore 5, 2) := by decide +kernel
theorem dX4_wanted_26 : decode cX4_wanted 26 = .ok (.iload_n 3, 1) := by decide +kernel
theorem dX4_wanted_27 : decode cX4_wanted 27 = .ok (.iconst 3, 1) := by decide +kernel
theorem dX4_wanted_28 : decode cX4_wanted 28 = .ok (.if_icmp .ne 5, 3) := by decide +kernel
theorem dX4_wanted_31 : decode cX4_wanted 31 = .ok (.iconst 0, 1) := by decide +kernel
theorem dX4_wanted_32 : decode cX4_wanted 32 = .ok (.ireturn, 1) := by decide +kernel
theorem dX4_wanted_33 : decode cX4_wanted 33 = .ok (.iload_n 3, 1) := by decide +kernel
theorem dX4_wanted_34 : decode cX4_wanted 34 = .ok (.iconst 2, 1) := by decide +kernel
theorem dX4_wanted_35 : decode cX4_wanted 35 = .ok (.if_icmp .ne 12, 3) := by decide +kernel
theorem dX4_wanted_38 : decode cX4_wanted 38 = .ok (.aload_n 0, 1) := by decide +kernel
theorem dX4_wanted_39 : decode cX4_wanted 39 = .ok (.iload 4, 2) := by decide +kernel
theorem dX4_wanted_41 : decode cX4_wanted 41 = .ok (.iload 5, 2) := by decide +kernel
theorem dX4_wanted_43 : decode cX4_wanted 43 = .ok (.invokevirtual 108, 3) := by decide +kernel
theorem dX4_wanted_46 : decode cX4_wanted 46 = .ok (.ireturn, 1) := by decide +kernel
theorem dX4_wanted_47 : decode cX4_wanted 47 = .ok (.aload_n 0, 1) := by decide +kernel
theorem dX4_wanted_48 : decode cX4_wanted 48 = .ok (.iload 4, 2) := by decide +kernel
theorem dX4_wanted_50 : decode cX4_wanted 50 = .ok (.iload 5, 2) := by decide +kernel
theorem dX4_wanted_52 : decode cX4_wanted 52 = .ok (.invokevirtual 118, 3) := by decide +kernel
theorem dX4_wanted_55 : decode cX4_wanted 55 = .ok (.istore 6, 2) := by decide +kernel
theorem dX4_wanted_57 : decode cX4_wanted 57 = .ok (.iload 6, 2) := by decide +kernel
theorem dX4_wanted_59 : decode cX4_wanted 59 = .ok (.ifCond .lt 10, 3) := by decide +kernel
theorem dX4_wanted_62 : decode cX4_wanted 62 = .ok (.iconst 1, 1) := by decide +kernel
theorem dX4_wanted_63 : decode cX4_wanted 63 = .ok (.iload 6, 2) := by decide +kernel
theorem dX4_wanted_65 : decode cX4_wanted 65 = .ok (.ishl, 1) := by decide +kernel
theorem dX4_wanted_66 : decode cX4_wanted 66 = .ok (.goto 20, 3) := by decide +kernel
theorem dX4_wanted_69 : decode cX4_wanted 69 = .ok (.iload_n 3, 1) := by decide +kernel
theorem dX4_wanted_70 : decode cX4_wanted 70 = .ok (.iconst 1, 1) := by decide +kernel
theorem dX4_wanted_71 : decode cX4_wanted 71 = .ok (.if_icmp .ne 13, 3) := by decide +kernel
theorem dX4_wanted_74 : decode cX4_wanted 74 = .ok (.iload 6, 2) := by decide +kernel
theorem dX4_wanted_76 : decode cX4_wanted 76 = .ok (.iconst (-1), 1) := by decide +kernel
theorem dX4_wanted_77 : decode cX4_wanted 77 = .ok (.if_icmp .ne 7, 3) := by decide +kernel
theorem dX4_wanted_80 : decode cX4_wanted 80 = .ok (.iconst 0, 1) := by decide +kernel
theorem dX4_wanted_81 : decode cX4_wanted 81 = .ok (.goto 5, 3) := by decide +kernel
theorem dX4_wanted_84 : decode cX4_wanted 84 = .ok (.iload 6, 2) := by decide +kernel
theorem dX4_wanted_86 : decode cX4_wanted 86 = .ok (.ireturn, 1) := by decide +kernel
theorem dX4_wouldGoOn_0 : decode cX4_wouldGoOn 0 = .ok (.aload_n 0, 1) := by decide +kernel
theorem dX4_wouldGoOn_1 : decode cX4_wouldGoOn 1 = .ok (.getfield 121, 3) := by decide +kernel
theorem dX4_wouldGoOn_4 : decode cX4_wouldGoOn 4 = .ok (.iconst 1, 1) := by decide +kernel
theorem dX4_wouldGoOn_5 : decode cX4_wouldGoOn 5 = .ok (.isub, 1) := by decide +kernel
theorem dX4_wouldGoOn_6 : decode cX4_wouldGoOn 6 = .ok (.istore_n 1, 1) := by decide +kernel
theorem dX4_wouldGoOn_7 : decode cX4_wouldGoOn 7 = .ok (.aload_n 0, 1) := by decide +kernel
theorem dX4_wouldGoOn_8 : decode cX4_wouldGoOn 8 = .ok (.getfield 28, 3) := by decide +kernel
theorem dX4_wouldGoOn_11 : decode cX4_wouldGoOn 11 = .ok (.iload_n 1, 1) := by decide +kernel
theorem dX4_wouldGoOn_12 : decode cX4_wouldGoOn 12 = .ok (.iaload, 1) := by decide +kernel
theorem dX4_wouldGoOn_13 : decode cX4_wouldGoOn 13 = .ok (.ifCond .eq 58, 3) := by decide +kernel
theorem dX4_wouldGoOn_16 : decode cX4_wouldGoOn 16 = .ok (.aload_n 0, 1) := by decide +kernel
theorem dX4_wouldGoOn_17 : decode cX4_wouldGoOn 17 = .ok (.getfield 28, 3) := by decide +kernel
theorem dX4_wouldGoOn_20 : decode cX4_wouldGoOn 20 = .ok (.iload_n 1, 1) := by decide +kernel
theorem dX4_wouldGoOn_21 : decode cX4_wouldGoOn 21 = .ok (.iaload, 1) := by decide +kernel
theorem dX4_wouldGoOn_22 : decode cX4_wouldGoOn 22 = .ok (.invokestatic 115, 3) := by decide +kernel
theorem dX4_wouldGoOn_25 : decode cX4_wouldGoOn 25 = .ok (.istore_n 2, 1) := by decide +kernel
theorem dX4_wouldGoOn_26 : decode cX4_wouldGoOn 26 = .ok (.aload_n 0, 1) := by decide +kernel
theorem dX4_wouldGoOn_27 : decode cX4_wouldGoOn 27 = .ok (.getfield 28, 3) := by decide +kernel
theorem dX4_wouldGoOn_30 : decode cX4_wouldGoOn 30 = .ok (.iload_n 1, 1) := by decide +kernel
theorem dX4_wouldGoOn_31 : decode cX4_wouldGoOn 31 = .ok (.dup2, 1) := by decide +kernel
theorem dX4_wouldGoOn_32 : decode cX4_wouldGoOn 32 = .ok (.iaload, 1) := by decide +kernel
theorem dX4_wouldGoOn_33 : decode cX4_wouldGoOn 33 = .ok (.iconst 1, 1) := by decide +kernel
theorem dX4_wouldGoOn_34 : decode cX4_wouldGoOn 34 = .ok (.iload_n 2, 1) := by decide +kernel
theorem dX4_wouldGoOn_35 : decode cX4_wouldGoOn 35 = .ok (.ishl, 1) := by decide +kernel
theorem dX4_wouldGoOn_36 : decode cX4_wouldGoOn 36 = .ok (.iconst (-1), 1) := by decide +kernel
theorem dX4_wouldGoOn_37 : decode cX4_wouldGoOn 37 = .ok (.ixor, 1) := by decide +kernel
theorem dX4_wouldGoOn_38 : decode cX4_wouldGoOn 38 = .ok (.iand, 1) := by decide +kernel
theorem dX4_wouldGoOn_39 : decode cX4_wouldGoOn 39 = .ok (.iastore, 1) := by decide +kernel
theorem dX4_wouldGoOn_40 : decode cX4_wouldGoOn 40 = .ok (.aload_n 0, 1) := by decide +kernel
theorem dX4_wouldGoOn_41 : decode cX4_wouldGoOn 41 = .ok (.getfield 124, 3) := by decide +kernel
theorem dX4_wouldGoOn_44 : decode cX4_wouldGoOn 44 = .ok (.iload_n 2, 1) := by decide +kernel
theorem dX4_wouldGoOn_45 : decode cX4_wouldGoOn 45 = .ok (.ishr, 1) := by decide +kernel
theorem dX4_wouldGoOn_46 : decode cX4_wouldGoOn 46 = .ok (.iconst 1, 1) := by decide +kernel
theorem dX4_wouldGoOn_47 : decode cX4_wouldGoOn 47 = .ok (.iand, 1) := by decide +kernel
theorem dX4_wouldGoOn_48 : decode cX4_wouldGoOn 48 = .ok (.iconst 1, 1) := by decide +kernel
theorem dX4_wouldGoOn_49 : decode cX4_wouldGoOn 49 = .ok (.if_icmp .ne 5, 3) := by decide +kernel
theorem dX4_wouldGoOn_52 : decode cX4_wouldGoOn 52 = .ok (.iconst 0, 1) := by decide +kernel
theorem dX4_wouldGoOn_53 : decode cX4_wouldGoOn 53 = .ok (.ireturn, 1) := by decide +kernel
theorem dX4_wouldGoOn_54 : decode cX4_wouldGoOn 54 = .ok (.aload_n 0, 1) := by decide +kernel
theorem dX4_wouldGoOn_55 : decode cX4_wouldGoOn 55 = .ok (.iload_n 2, 1) := by decide +kernel
theorem dX4_wouldGoOn_56 : decode cX4_wouldGoOn 56 = .ok (.invokevirtual 127, 3) := by decide +kernel
theorem dX4_wouldGoOn_59 : decode cX4_wouldGoOn 59 = .ok (.ifCond .eq 5, 3) := by decide +kernel
theorem dX4_wouldGoOn_62 : decode cX4_wouldGoOn 62 = .ok (.iconst 3, 1) := by decide +kernel
theorem dX4_wouldGoOn_63 : decode cX4_wouldGoOn 63 = .ok (.ireturn, 1) := by decide +kernel
theorem dX4_wouldGoOn_64 : decode cX4_wouldGoOn 64 = .ok (.aload_n 0, 1) := by decide +kernel
theorem dX4_wouldGoOn_65 : decode cX4_wouldGoOn 65 = .ok (.iload_n 2, 1) := by decide +kernel
theorem dX4_wouldGoOn_66 : decode cX4_wouldGoOn 66 = .ok (.invokevirtual 130, 3) := by decide +kernel
theorem dX4_wouldGoOn_69 : decode cX4_wouldGoOn 69 = .ok (.iconst 0, 1) := by decide +kernel
theorem dX4_wouldGoOn_70 : decode cX4_wouldGoOn 70 = .ok (.ireturn, 1) := by decide +kernel
theorem dX4_wouldGoOn_71 : decode cX4_wouldGoOn 71 = .ok (.aload_n 0, 1) := by decide +kernel
theorem dX4_wouldGoOn_72 : decode cX4_wouldGoOn 72 = .ok (.getfield 25, 3) := by decide +kernel
theorem dX4_wouldGoOn_75 : decode cX4_wouldGoOn 75 = .ok (.iload_n 1, 1) := by decide +kernel
theorem dX4_wouldGoOn_76 : decode cX4_wouldGoOn 76 = .ok (.iaload, 1) := by decide +kernel
theorem dX4_wouldGoOn_77 : decode cX4_wouldGoOn 77 = .ok (.aload_n 0, 1) := by decide +kernel
theorem dX4_wouldGoOn_78 : decode cX4_wouldGoOn 78 = .ok (.getfield 13, 3) := by decide +kernel
theorem dX4_wouldGoOn_81 : decode cX4_wouldGoOn 81 = .ok (.aload_n 0, 1) := by decide +kernel
theorem dX4_wouldGoOn_82 : decode cX4_wouldGoOn 82 = .ok (.getfield 22, 3) := by decide +kernel
theorem dX4_wouldGoOn_85 : decode cX4_wouldGoOn 85 = .ok (.iload_n 1, 1) := by decide +kernel
theorem dX4_wouldGoOn_86 : decode cX4_wouldGoOn 86 = .ok (.iaload, 1) := by decide +kernel
theorem dX4_wouldGoOn_87 : decode cX4_wouldGoOn 87 = .ok (.iaload, 1) := by decide +kernel
theorem dX4_wouldGoOn_88 : decode cX4_wouldGoOn 88 = .ok (.if_icmp .ne 32, 3) := by decide +kernel
theorem dX4_wouldGoOn_91 : decode cX4_wouldGoOn 91 = .ok (.aload_n 0, 1) := by decide +kernel
theorem dX4_wouldGoOn_92 : decode cX4_wouldGoOn 92 = .ok (.dup, 1) := by decide +kernel
theorem dX4_wouldGoOn_93 : decode cX4_wouldGoOn 93 = .ok (.getfield 124, 3) := by decide +kernel
theorem dX4_wouldGoOn_96 : decode cX4_wouldGoOn 96 = .ok (.iconst 1, 1) := by decide +kernel
theorem dX4_wouldGoOn_97 : decode cX4_wouldGoOn 97 = .ok (.aload_n 0, 1) := by decide +kernel
theorem dX4_wouldGoOn_98 : decode cX4_wouldGoOn 98 = .ok (.getfield 22, 3) := by decide +kernel
theorem dX4_wouldGoOn_101 : decode cX4_wouldGoOn 101 = .ok (.iload_n 1, 1) := by decide +kernel
theorem dX4_wouldGoOn_102 : decode cX4_wouldGoOn 102 = .ok (.iaload, 1) := by decide +kernel
theorem dX4_wouldGoOn_103 : decode cX4_wouldGoOn 103 = .ok (.ishl, 1) := by decide +kernel
theorem dX4_wouldGoOn_104 : decode cX4_wouldGoOn 104 = .ok (.ior, 1) := by decide +kernel
theorem dX4_wouldGoOn_105 : decode cX4_wouldGoOn 105 = .ok (.putfield 124, 3) := by decide +kernel
theorem dX4_wouldGoOn_108 : decode cX4_wouldGoOn 108 = .ok (.aload_n 0, 1) := by decide +kernel
theorem dX4_wouldGoOn_109 : decode cX4_wouldGoOn 109 = .ok (.dup, 1) := by decide +kernel
theorem dX4_wouldGoOn_110 : decode cX4_wouldGoOn 110 = .ok (.getfield 121, 3) := by decide +kernel
theorem dX4_wouldGoOn_113 : decode cX4_wouldGoOn 113 = .ok (.iconst 1, 1) := by decide +kernel
theorem dX4_wouldGoOn_114 : decode cX4_wouldGoOn 114 = .ok (.isub, 1) := by decide +kernel
theorem dX4_wouldGoOn_115 : decode cX4_wouldGoOn 115 = .ok (.putfield 121, 3) := by decide +kernel
theorem dX4_wouldGoOn_118 : decode cX4_wouldGoOn 118 = .ok (.iconst 0, 1) := by decide +kernel
theorem dX4_wouldGoOn_119 : decode cX4_wouldGoOn 119 = .ok (.ireturn, 1) := by decide +kernel
theorem dX4_wouldGoOn_120 : decode cX4_wouldGoOn 120 = .ok (.aload_n 0, 1) := by decide +kernel
theorem dX4_wouldGoOn_121 : decode cX4_wouldGoOn 121 = .ok (.aload_n 0, 1) := by decide +kernel
theorem dX4_wouldGoOn_122 : decode cX4_wouldGoOn 122 = .ok (.getfield 22, 3) := by decide +kernel
theorem dX4_wouldGoOn_125 : decode cX4_wouldGoOn 125 = .ok (.iload_n 1, 1) := by decide +kernel
theorem dX4_wouldGoOn_126 : decode cX4_wouldGoOn 126 = .ok (.iaload, 1) := by decide +kernel
theorem dX4_wouldGoOn_127 : decode cX4_wouldGoOn 127 = .ok (.aload_n 0, 1) := by decide +kernel
theorem dX4_wouldGoOn_128 : decode cX4_wouldGoOn 128 = .ok (.getfield 25, 3) := by decide +kernel
theorem dX4_wouldGoOn_131 : decode cX4_wouldGoOn 131 = .ok (.iload_n 1, 1) := by decide +kernel
theorem dX4_wouldGoOn_132 : decode cX4_wouldGoOn 132 = .ok (.iaload, 1) := by decide +kernel
theorem dX4_wouldGoOn_133 : decode cX4_wouldGoOn 133 = .ok (.invokevirtual 134, 3) := by decide +kernel
theorem dX4_wouldGoOn_136 : decode cX4_wouldGoOn 136 = .ok (.istore_n 2, 1) := by decide +kernel
theorem dX4_wouldGoOn_137 : decode cX4_wouldGoOn 137 = .ok (.aload_n 0, 1) := by decide +kernel
theorem dX4_wouldGoOn_138 : decode cX4_wouldGoOn 138 = .ok (.getfield 25, 3) := by decide +kernel
theorem dX4_wouldGoOn_141 : decode cX4_wouldGoOn 141 = .ok (.iload_n 1, 1) := by decide +kernel
theorem dX4_wouldGoOn_142 : decode cX4_wouldGoOn 142 = .ok (.dup2, 1) := by decide +kernel
theorem dX4_wouldGoOn_143 : decode cX4_wouldGoOn 143 = .ok (.iaload, 1) := by decide +kernel
theorem dX4_wouldGoOn_144 : decode cX4_wouldGoOn 144 = .ok (.iconst 1, 1) := by decide +kernel
theorem dX4_wouldGoOn_145 : decode cX4_wouldGoOn 145 = .ok (.iadd, 1) := by decide +kernel
theorem dX4_wouldGoOn_146 : decode cX4_wouldGoOn 146 = .ok (.iastore, 1) := by decide +kernel
theorem dX4_wouldGoOn_147 : decode cX4_wouldGoOn 147 = .ok (.iload_n 2, 1) := by decide +kernel
theorem dX4_wouldGoOn_148 : decode cX4_wouldGoOn 148 = .ok (.ifCond .ge 6, 3) := by decide +kernel
theorem dX4_wouldGoOn_151 : decode cX4_wouldGoOn 151 = .ok (.iload_n 2, 1) := by decide +kernel
theorem dX4_wouldGoOn_152 : decode cX4_wouldGoOn 152 = .ok (.ineg, 1) := by decide +kernel
theorem dX4_wouldGoOn_153 : decode cX4_wouldGoOn 153 = .ok (.ireturn, 1) := by decide +kernel
theorem dX4_wouldGoOn_154 : decode cX4_wouldGoOn 154 = .ok (.aload_n 0, 1) := by decide +kernel
theorem dX4_wouldGoOn_155 : decode cX4_wouldGoOn 155 = .ok (.getfield 28, 3) := by decide +kernel
theorem dX4_wouldGoOn_158 : decode cX4_wouldGoOn 158 = .ok (.iload_n 1, 1) := by decide +kernel
theorem dX4_wouldGoOn_159 : decode cX4_wouldGoOn 159 = .ok (.iload_n 2, 1) := by decide +kernel
theorem dX4_wouldGoOn_160 : decode cX4_wouldGoOn 160 = .ok (.iastore, 1) := by decide +kernel
theorem dX4_wouldGoOn_161 : decode cX4_wouldGoOn 161 = .ok (.iconst 0, 1) := by decide +kernel
theorem dX4_wouldGoOn_162 : decode cX4_wouldGoOn 162 = .ok (.ireturn, 1) := by decide +kernel
theorem dX4_problem_0 : decode cX4_problem 0 = .ok (.aload_n 0, 1) := by decide +kernel
theorem dX4_problem_1 : decode cX4_problem 1 = .ok (.aload_n 0, 1) := by decide +kernel
theorem dX4_problem_2 : decode cX4_problem 2 = .ok (.iload_n 1, 1) := by decide +kernel
theorem dX4_problem_3 : decode cX4_problem 3 = .ok (.invokevirtual 83, 3) := by decide +kernel
theorem dX4_problem_6 : decode cX4_problem 6 = .ok (.ifCond .eq 7, 3) := by decide +kernel
theorem dX4_problem_9 : decode cX4_problem 9 = .ok (.iconst 0, 1) := by decide +kernel
theorem dX4_problem_10 : decode cX4_problem 10 = .ok (.goto 4, 3) := by decide +kernel
theorem dX4_problem_13 : decode cX4_problem 13 = .ok (.iconst 1, 1) := by decide +kernel
theorem dX4_problem_14 : decode cX4_problem 14 = .ok (.putfield 72, 3) := by decide +kernel
theorem dX4_problem_17 : decode cX4_problem 17 = .ok (.aload_n 0, 1) := by decide +kernel
theorem dX4_problem_18 : decode cX4_problem 18 = .ok (.getfield 72, 3) := by decide +kernel
theorem dX4_problem_21 : decode cX4_problem 21 = .ok (.ifCond .eq 5, 3) := by decide +kernel
theorem dX4_problem_24 : decode cX4_problem 24 = .ok (.iconst 0, 1) := by decide +kernel
theorem dX4_problem_25 : decode cX4_problem 25 = .ok (.ireturn, 1) := by decide +kernel
theorem dX4_problem_26 : decode cX4_problem 26 = .ok (.aload_n 0, 1) := by decide +kernel
theorem dX4_problem_27 : decode cX4_problem 27 = .ok (.iconst 0, 1) := by decide +kernel
theorem dX4_problem_28 : decode cX4_problem 28 = .ok (.putfield 121, 3) := by decide +kernel
theorem dX4_problem_31 : decode cX4_problem 31 = .ok (.aload_n 0, 1) := by decide +kernel
theorem dX4_problem_32 : decode cX4_problem 32 = .ok (.iconst 0, 1) := by decide +kernel
theorem dX4_problem_33 : decode cX4_problem 33 = .ok (.putfield 124, 3) := by decide +kernel
theorem dX4_problem_36 : decode cX4_problem 36 = .ok (.aload_n 0, 1) := by decide +kernel
theorem dX4_problem_37 : decode cX4_problem 37 = .ok (.iload_n 1, 1) := by decide +kernel
theorem dX4_problem_38 : decode cX4_problem 38 = .ok (.invokevirtual 130, 3) := by decide +kernel
theorem dX4_problem_41 : decode cX4_problem 41 = .ok (.iconst 0, 1) := by decide +kernel
theorem dX4_problem_42 : decode cX4_problem 42 = .ok (.istore_n 2, 1) := by decide +kernel
theorem dX4_problem_43 : decode cX4_problem 43 = .ok (.aload_n 0, 1) := by decide +kernel
theorem dX4_problem_44 : decode cX4_problem 44 = .ok (.getfield 121, 3) := by decide +kernel
theorem dX4_problem_47 : decode cX4_problem 47 = .ok (.ifCond .le 15, 3) := by decide +kernel
theorem dX4_problem_50 : decode cX4_problem 50 = .ok (.iload_n 2, 1) := by decide +kernel
theorem dX4_problem_51 : decode cX4_problem 51 = .ok (.ifCond .ne 11, 3) := by decide +kernel
theorem dX4_problem_54 : decode cX4_problem 54 = .ok (.aload_n 0, 1) := by decide +kernel
theorem dX4_problem_55 : decode cX4_problem 55 = .ok (.invokevirtual 137, 3) := by decide +kernel
theorem dX4_problem_58 : decode cX4_problem 58 = .ok (.istore_n 2, 1) := by decide +kernel
theorem dX4_problem_59 : decode cX4_problem 59 = .ok (.goto (-16), 3) := by decide +kernel
theorem dX4_problem_62 : decode cX4_problem 62 = .ok (.aload_n 0, 1) := by decide +kernel
theorem dX4_problem_63 : decode cX4_problem 63 = .ok (.iconst 0, 1) := by decide +kernel
theorem dX4_problem_64 : decode cX4_problem 64 = .ok (.putfield 121, 3) := by decide +kernel
theorem dX4_problem_67 : decode cX4_problem 67 = .ok (.iload_n 2, 1) := by decide +kernel
theorem dX4_problem_68 : decode cX4_problem 68 = .ok (.ireturn, 1) := by decide +kernel
theorem dX4_directly_0 : decode cX4_directly 0 = .ok (.iconst 0, 1) := by decide +kernel
theorem dX4_directly_1 : decode cX4_directly 1 = .ok (.istore_n 2, 1) := by decide +kernel
theorem dX4_directly_2 : decode cX4_directly 2 = .ok (.iconst 0, 1) := by decide +kernel
theorem dX4_directly_3 : decode cX4_directly 3 = .ok (.istore_n 3, 1) := by decide +kernel
theorem dX4_directly_4 : decode cX4_directly 4 = .ok (.iload_n 3, 1) := by decide +kernel
theorem dX4_directly_5 : decode cX4_directly 5 = .ok (.aload_n 0, 1) := by decide +kernel
theorem dX4_directly_6 : decode cX4_directly 6 = .ok (.getfield 13, 3) := by decide +kernel
theorem dX4_directly_9 : decode cX4_directly 9 = .ok (.iload_n 1, 1) := by decide +kernel
theorem dX4_directly_10 : decode cX4_directly 10 = .ok (.iaload, 1) := by decide +kernel
theorem dX4_directly_11 : decode cX4_directly 11 = .ok (.if_icmp .ge 31, 3) := by decide +kernel
theorem dX4_directly_14 : decode cX4_directly 14 = .ok (.aload_n 0, 1) := by decide +kernel
theorem dX4_directly_15 : decode cX4_directly 15 = .ok (.iload_n 1, 1) := by decide +kernel
theorem dX4_directly_16 : decode cX4_directly 16 = .ok (.iload_n 3, 1) := by decide +kernel
theorem dX4_directly_17 : decode cX4_directly 17 = .ok (.invokevirtual 134, 3) := by decide +kernel
theorem dX4_directly_20 : decode cX4_directly 20 = .ok (.istore 4, 2) := by decide +kernel
theorem dX4_directly_22 : decode cX4_directly 22 = .ok (.iload_n 2, 1) := by decide +kernel
theorem dX4_directly_23 : decode cX4_directly 23 = .ok (.iload 4, 2) := by decide +kernel
theorem dX4_directly_25 : decode cX4_directly 25 = .ok (.ifCond .le 8, 3) := by decide +kernel
theorem dX4_directly_28 : decode cX4_directly 28 = .ok (.iload 4, 2) := by decide +kernel
theorem dX4_directly_30 : decode cX4_directly 30 = .ok (.goto 4, 3) := by decide +kernel
theorem dX4_directly_33 : decode cX4_directly 33 = .ok (.iconst 0, 1) := by decide +kernel
theorem dX4_directly_34 : decode cX4_directly 34 = .ok (.ior, 1) := by decide +kernel
theorem dX4_directly_35 : decode cX4_directly 35 = .ok (.istore_n 2, 1) := by decide +kernel
theorem dX4_directly_36 : decode cX4_directly 36 = .ok (.iinc 3 1, 3) := by decide +kernel
theorem dX4_directly_39 : decode cX4_directly 39 = .ok (.goto (-35), 3) := by decide +kernel
theorem dX4_directly_42 : decode cX4_directly 42 = .ok (.iload_n 2, 1) := by decide +kernel
theorem dX4_directly_43 : decode cX4_directly 43 = .ok (.ireturn, 1) := by decide +kernel
theorem dX4_needs_0 : decode cX4_needs 0 = .ok (.aload_n 0, 1) := by decide +kernel
theorem dX4_needs_1 : decode cX4_needs 1 = .ok (.aload_n 0, 1) := by decide +kernel
theorem dX4_needs_2 : decode cX4_needs 2 = .ok (.iload_n 1, 1) := by decide +kernel
theorem dX4_needs_3 : decode cX4_needs 3 = .ok (.invokevirtual 83, 3) := by decide +kernel
theorem dX4_needs_6 : decode cX4_needs 6 = .ok (.ifCond .eq 7, 3) := by decide +kernel
theorem dX4_needs_9 : decode cX4_needs 9 = .ok (.iconst 0, 1) := by decide +kernel
theorem dX4_needs_10 : decode cX4_needs 10 = .ok (.goto 4, 3) := by decide +kernel
theorem dX4_needs_13 : decode cX4_needs 13 = .ok (.iconst 1, 1) := by decide +kernel
theorem dX4_needs_14 : decode cX4_needs 14 = .ok (.putfield 72, 3) := by decide +kernel
theorem dX4_needs_17 : decode cX4_needs 17 = .ok (.aload_n 0, 1) := by decide +kernel
theorem dX4_needs_18 : decode cX4_needs 18 = .ok (.getfield 72, 3) := by decide +kernel
theorem dX4_needs_21 : decode cX4_needs 21 = .ok (.ifCond .eq 5, 3) := by decide +kernel
theorem dX4_needs_24 : decode cX4_needs 24 = .ok (.iconst 0, 1) := by decide +kernel
theorem dX4_needs_25 : decode cX4_needs 25 = .ok (.ireturn, 1) := by decide +kernel
theorem dX4_needs_26 : decode cX4_needs 26 = .ok (.aload_n 0, 1) := by decide +kernel
theorem dX4_needs_27 : decode cX4_needs 27 = .ok (.iload_n 1, 1) := by decide +kernel
theorem dX4_needs_28 : decode cX4_needs 28 = .ok (.invokevirtual 141, 3) := by decide +kernel
theorem dX4_needs_31 : decode cX4_needs 31 = .ok (.istore_n 2, 1) := by decide +kernel
theorem dX4_needs_32 : decode cX4_needs 32 = .ok (.iconst 0, 1) := by decide +kernel
theorem dX4_needs_33 : decode cX4_needs 33 = .ok (.istore_n 3, 1) := by decide +kernel
theorem dX4_needs_34 : decode cX4_needs 34 = .ok (.iload_n 3, 1) := by decide +kernel
theorem dX4_needs_35 : decode cX4_needs 35 = .ok (.aload_n 0, 1) := by decide +kernel
theorem dX4_needs_36 : decode cX4_needs 36 = .ok (.getfield 75, 3) := by decide +kernel
theorem dX4_needs_39 : decode cX4_needs 39 = .ok (.if_icmp .ge 50, 3) := by decide +kernel
theorem dX4_needs_42 : decode cX4_needs 42 = .ok (.iconst 0, 1) := by decide +kernel
theorem dX4_needs_43 : decode cX4_needs 43 = .ok (.istore 4, 2) := by decide +kernel
theorem dX4_needs_45 : decode cX4_needs 45 = .ok (.iload 4, 2) := by decide +kernel
theorem dX4_needs_47 : decode cX4_needs 47 = .ok (.aload_n 0, 1) := by decide +kernel
theorem dX4_needs_48 : decode cX4_needs 48 = .ok (.getfield 75, 3) := by decide +kernel
theorem dX4_needs_51 : decode cX4_needs 51 = .ok (.if_icmp .ge 32, 3) := by decide +kernel
theorem dX4_needs_54 : decode cX4_needs 54 = .ok (.iload_n 2, 1) := by decide +kernel
theorem dX4_needs_55 : decode cX4_needs 55 = .ok (.iload_n 2, 1) := by decide +kernel
theorem dX4_needs_56 : decode cX4_needs 56 = .ok (.iload 4, 2) := by decide +kernel
theorem dX4_needs_58 : decode cX4_needs 58 = .ok (.ishr, 1) := by decide +kernel
theorem dX4_needs_59 : decode cX4_needs 59 = .ok (.iconst 1, 1) := by decide +kernel
theorem dX4_needs_60 : decode cX4_needs 60 = .ok (.iand, 1) := by decide +kernel
theorem dX4_needs_61 : decode cX4_needs 61 = .ok (.iconst 1, 1) := by decide +kernel
theorem dX4_needs_62 : decode cX4_needs 62 = .ok (.if_icmp .ne 12, 3) := by decide +kernel
theorem dX4_needs_65 : decode cX4_needs 65 = .ok (.aload_n 0, 1) := by decide +kernel
theorem dX4_needs_66 : decode cX4_needs 66 = .ok (.iload 4, 2) := by decide +kernel
theorem dX4_needs_68 : decode cX4_needs 68 = .ok (.invokevirtual 141, 3) := by decide +kernel
theorem dX4_needs_71 : decode cX4_needs 71 = .ok (.goto 4, 3) := by decide +kernel
theorem dX4_needs_74 : decode cX4_needs 74 = .ok (.iconst 0, 1) := by decide +kernel
theorem dX4_needs_75 : decode cX4_needs 75 = .ok (.ior, 1) := by decide +kernel
theorem dX4_needs_76 : decode cX4_needs 76 = .ok (.istore_n 2, 1) := by decide +kernel
theorem dX4_needs_77 : decode cX4_needs 77 = .ok (.iinc 4 1, 3) := by decide +kernel
theorem dX4_needs_80 : decode cX4_needs 80 = .ok (.goto (-35), 3) := by decide +kernel
theorem dX4_needs_83 : decode cX4_needs 83 = .ok (.iinc 3 1, 3) := by decide +kernel
theorem dX4_needs_86 : decode cX4_needs 86 = .ok (.goto (-52), 3) := by decide +kernel
theorem dX4_needs_89 : decode cX4_needs 89 = .ok (.iload_n 2, 1) := by decide +kernel
theorem dX4_needs_90 : decode cX4_needs 90 = .ok (.ireturn, 1) := by decide +kernel
theorem dX4_fail_0 : decode cX4_fail 0 = .ok (.aload_n 0, 1) := by decide +kernel
theorem dX4_fail_1 : decode cX4_fail 1 = .ok (.iload_n 1, 1) := by decide +kernel
theorem dX4_fail_2 : decode cX4_fail 2 = .ok (.putfield 144, 3) := by decide +kernel
theorem dX4_fail_5 : decode cX4_fail 5 = .ok (.aload_n 0, 1) := by decide +kernel
theorem dX4_fail_6 : decode cX4_fail 6 = .ok (.iload_n 2, 1) := by decide +kernel
theorem dX4_fail_7 : decode cX4_fail 7 = .ok (.putfield 147, 3) := by decide +kernel
theorem dX4_fail_10 : decode cX4_fail 10 = .ok (.return_, 1) := by decide +kernel
theorem dX4_construct_0 : decode cX4_construct 0 = .ok (.aload_n 0, 1) := by decide +kernel
theorem dX4_construct_1 : decode cX4_construct 1 = .ok (.iload_n 1, 1) := by decide +kernel
theorem dX4_construct_2 : decode cX4_construct 2 = .ok (.invokevirtual 127, 3) := by decide +kernel
theorem dX4_construct_5 : decode cX4_construct 5 = .ok (.ifCond .eq 10, 3) := by decide +kernel
theorem dX4_construct_8 : decode cX4_construct 8 = .ok (.aload_n 0, 1) := by decide +kernel
theorem dX4_construct_9 : decode cX4_construct 9 = .ok (.iconst 3, 1) := by decide +kernel
theorem dX4_construct_10 : decode cX4_construct 10 = .ok (.iload_n 1, 1) := by decide +kernel
theorem dX4_construct_11 : decode cX4_construct 11 = .ok (.invokevirtual 150, 3) := by decide +kernel
theorem dX4_construct_14 : decode cX4_construct 14 = .ok (.return_, 1) := by decide +kernel
theorem dX4_construct_15 : decode cX4_construct 15 = .ok (.aload_n 0, 1) := by decide +kernel
theorem dX4_construct_16 : decode cX4_construct 16 = .ok (.iload_n 1, 1) := by decide +kernel
theorem dX4_construct_17 : decode cX4_construct 17 = .ok (.invokevirtual 130, 3) := by decide +kernel
theorem dX4_construct_20 : decode cX4_construct 20 = .ok (.aload_n 0, 1) := by decide +kernel
theorem dX4_construct_21 : decode cX4_construct 21 = .ok (.getfield 56, 3) := by decide +kernel
theorem dX4_construct_24 : decode cX4_construct 24 = .ok (.aload_n 0, 1) := by decide +kernel
theorem dX4_construct_25 : decode cX4_construct 25 = .ok (.getfield 121, 3) := by decide +kernel
theorem dX4_construct_28 : decode cX4_construct 28 = .ok (.iconst 1, 1) := by decide +kernel
theorem dX4_construct_29 : decode cX4_construct 29 = .ok (.isub, 1) := by decide +kernel
theorem dX4_construct_30 : decode cX4_construct 30 = .ok (.iload_n 2, 1) := by decide +kernel
theorem dX4_construct_31 : decode cX4_construct 31 = .ok (.iastore, 1) := by decide +kernel
theorem dX4_construct_32 : decode cX4_construct 32 = .ok (.aload_n 0, 1) := by decide +kernel
theorem dX4_construct_33 : decode cX4_construct 33 = .ok (.getfield 59, 3) := by decide +kernel
theorem dX4_construct_36 : decode cX4_construct 36 = .ok (.aload_n 0, 1) := by decide +kernel
theorem dX4_construct_37 : decode cX4_construct 37 = .ok (.getfield 121, 3) := by decide +kernel
theorem dX4_construct_40 : decode cX4_construct 40 = .ok (.iconst 1, 1) := by decide +kernel
theorem dX4_construct_41 : decode cX4_construct 41 = .ok (.isub, 1) := by decide +kernel
theorem dX4_construct_42 : decode cX4_construct 42 = .ok (.iconst 0, 1) := by decide +kernel
theorem dX4_construct_43 : decode cX4_construct 43 = .ok (.bastore, 1) := by decide +kernel
theorem dX4_construct_44 : decode cX4_construct 44 = .ok (.return_, 1) := by decide +kernel
theorem dX4_living_0 : decode cX4_living 0 = .ok (.iconst (-1), 1) := by decide +kernel
theorem dX4_living_1 : decode cX4_living 1 = .ok (.istore_n 3, 1) := by decide +kernel
theorem dX4_living_2 : decode cX4_living 2 = .ok (.iconst 0, 1) := by decide +kernel
theorem dX4_living_3 : decode cX4_living 3 = .ok (.istore 4, 2) := by decide +kernel
theorem dX4_living_5 : decode cX4_living 5 = .ok (.iload 4, 2) := by decide +kernel
theorem dX4_living_7 : decode cX4_living 7 = .ok (.aload_n 0, 1) := by decide +kernel
theorem dX4_living_8 : decode cX4_living 8 = .ok (.getfield 154, 3) := by decide +kernel
theorem dX4_living_11 : decode cX4_living 11 = .ok (.if_icmp .ge 78, 3) := by decide +kernel
theorem dX4_living_14 : decode cX4_living 14 = .ok (.aload_n 0, 1) := by decide +kernel
theorem dX4_living_15 : decode cX4_living 15 = .ok (.getfield 40, 3) := by decide +kernel
theorem dX4_living_18 : decode cX4_living 18 = .ok (.iload 4, 2) := by decide +kernel
theorem dX4_living_20 : decode cX4_living 20 = .ok (.baload, 1) := by decide +kernel
theorem dX4_living_21 : decode cX4_living 21 = .ok (.ifCond .eq 47, 3) := by decide +kernel
theorem dX4_living_24 : decode cX4_living 24 = .ok (.aload_n 0, 1) := by decide +kernel
theorem dX4_living_25 : decode cX4_living 25 = .ok (.getfield 31, 3) := by decide +kernel
theorem dX4_living_28 : decode cX4_living 28 = .ok (.iload 4, 2) := by decide +kernel
theorem dX4_living_30 : decode cX4_living 30 = .ok (.iaload, 1) := by decide +kernel
theorem dX4_living_31 : decode cX4_living 31 = .ok (.iload_n 1, 1) := by decide +kernel
theorem dX4_living_32 : decode cX4_living 32 = .ok (.if_icmp .ne 36, 3) := by decide +kernel
theorem dX4_living_35 : decode cX4_living 35 = .ok (.aload_n 0, 1) := by decide +kernel
theorem dX4_living_36 : decode cX4_living 36 = .ok (.getfield 34, 3) := by decide +kernel
theorem dX4_living_39 : decode cX4_living 39 = .ok (.iload 4, 2) := by decide +kernel
theorem dX4_living_41 : decode cX4_living 41 = .ok (.iaload, 1) := by decide +kernel
theorem dX4_living_42 : decode cX4_living 42 = .ok (.iload_n 2, 1) := by decide +kernel
theorem dX4_living_43 : decode cX4_living 43 = .ok (.if_icmp .ne 25, 3) := by decide +kernel
theorem dX4_living_46 : decode cX4_living 46 = .ok (.iload_n 2, 1) := by decide +kernel
theorem dX4_living_47 : decode cX4_living 47 = .ok (.ifCond .eq 17, 3) := by decide +kernel
theorem dX4_living_50 : decode cX4_living 50 = .ok (.aload_n 0, 1) := by decide +kernel
theorem dX4_living_51 : decode cX4_living 51 = .ok (.getfield 37, 3) := by decide +kernel
theorem dX4_living_54 : decode cX4_living 54 = .ok (.iload 4, 2) := by decide +kernel
theorem dX4_living_56 : decode cX4_living 56 = .ok (.iaload, 1) := by decide +kernel
theorem dX4_living_57 : decode cX4_living 57 = .ok (.aload_n 0, 1) := by decide +kernel
theorem dX4_living_58 : decode cX4_living 58 = .ok (.getfield 157, 3) := by decide +kernel
theorem dX4_living_61 : decode cX4_living 61 = .ok (.if_icmp .ne 7, 3) := by decide +kernel
theorem dX4_living_64 : decode cX4_living 64 = .ok (.iconst 1, 1) := by decide +kernel
theorem dX4_living_65 : decode cX4_living 65 = .ok (.goto 4, 3) := by decide +kernel
theorem dX4_living_68 : decode cX4_living 68 = .ok (.iconst 0, 1) := by decide +kernel
theorem dX4_living_69 : decode cX4_living 69 = .ok (.istore 5, 2) := by decide +kernel
theorem dX4_living_71 : decode cX4_living 71 = .ok (.iload 5, 2) := by decide +kernel
theorem dX4_living_73 : decode cX4_living 73 = .ok (.ifCond .eq 8, 3) := by decide +kernel
theorem dX4_living_76 : decode cX4_living 76 = .ok (.iload 4, 2) := by decide +kernel
theorem dX4_living_78 : decode cX4_living 78 = .ok (.goto 4, 3) := by decide +kernel
theorem dX4_living_81 : decode cX4_living 81 = .ok (.iload_n 3, 1) := by decide +kernel
theorem dX4_living_82 : decode cX4_living 82 = .ok (.istore_n 3, 1) := by decide +kernel
theorem dX4_living_83 : decode cX4_living 83 = .ok (.iinc 4 1, 3) := by decide +kernel
theorem dX4_living_86 : decode cX4_living 86 = .ok (.goto (-81), 3) := by decide +kernel
theorem dX4_living_89 : decode cX4_living 89 = .ok (.iload_n 3, 1) := by decide +kernel
theorem dX4_living_90 : decode cX4_living 90 = .ok (.ireturn, 1) := by decide +kernel
theorem dX4_obtain_0 : decode cX4_obtain 0 = .ok (.aload_n 0, 1) := by decide +kernel
theorem dX4_obtain_1 : decode cX4_obtain 1 = .ok (.iload_n 1, 1) := by decide +kernel
theorem dX4_obtain_2 : decode cX4_obtain 2 = .ok (.iconst 1, 1) := by decide +kernel
theorem dX4_obtain_3 : decode cX4_obtain 3 = .ok (.invokevirtual 91, 3) := by decide +kernel
theorem dX4_obtain_6 : decode cX4_obtain 6 = .ok (.istore_n 2, 1) := by decide +kernel
theorem dX4_obtain_7 : decode cX4_obtain 7 = .ok (.aload_n 0, 1) := by decide +kernel
theorem dX4_obtain_8 : decode cX4_obtain 8 = .ok (.iconst (-1), 1) := by decide +kernel
theorem dX4_obtain_9 : decode cX4_obtain 9 = .ok (.putfield 160, 3) := by decide +kernel
theorem dX4_obtain_12 : decode cX4_obtain 12 = .ok (.iload_n 2, 1) := by decide +kernel
theorem dX4_obtain_13 : decode cX4_obtain 13 = .ok (.iconst 2, 1) := by decide +kernel
theorem dX4_obtain_14 : decode cX4_obtain 14 = .ok (.if_icmp .ne 17, 3) := by decide +kernel
theorem dX4_obtain_17 : decode cX4_obtain 17 = .ok (.aload_n 0, 1) := by decide +kernel
theorem dX4_obtain_18 : decode cX4_obtain 18 = .ok (.getfield 157, 3) := by decide +kernel
theorem dX4_obtain_21 : decode cX4_obtain 21 = .ok (.ifCond .ne 10, 3) := by decide +kernel
theorem dX4_obtain_24 : decode cX4_obtain 24 = .ok (.aload_n 0, 1) := by decide +kernel
theorem dX4_obtain_25 : decode cX4_obtain 25 = .ok (.iconst 4, 1) := by decide +kernel
theorem dX4_obtain_26 : decode cX4_obtain 26 = .ok (.iload_n 1, 1) := by decide +kernel
theorem dX4_obtain_27 : decode cX4_obtain 27 = .ok (.invokevirtual 150, 3) := by decide +kernel
theorem dX4_obtain_30 : decode cX4_obtain 30 = .ok (.return_, 1) := by decide +kernel
theorem dX4_obtain_31 : decode cX4_obtain 31 = .ok (.aload_n 0, 1) := by decide +kernel
theorem dX4_obtain_32 : decode cX4_obtain 32 = .ok (.iload_n 2, 1) := by decide +kernel
theorem dX4_obtain_33 : decode cX4_obtain 33 = .ok (.iconst 1, 1) := by decide +kernel
theorem dX4_obtain_34 : decode cX4_obtain 34 = .ok (.if_icmp .ne 7, 3) := by decide +kernel
theorem dX4_obtain_37 : decode cX4_obtain 37 = .ok (.iconst (-1), 1) := by decide +kernel
theorem dX4_obtain_38 : decode cX4_obtain 38 = .ok (.goto 9, 3) := by decide +kernel
theorem dX4_obtain_41 : decode cX4_obtain 41 = .ok (.aload_n 0, 1) := by decide +kernel
theorem dX4_obtain_42 : decode cX4_obtain 42 = .ok (.iload_n 1, 1) := by decide +kernel
theorem dX4_obtain_43 : decode cX4_obtain 43 = .ok (.iload_n 2, 1) := by decide +kernel
theorem dX4_obtain_44 : decode cX4_obtain 44 = .ok (.invokevirtual 163, 3) := by decide +kernel
theorem dX4_obtain_47 : decode cX4_obtain 47 = .ok (.putfield 160, 3) := by decide +kernel
theorem dX4_obtain_50 : decode cX4_obtain 50 = .ok (.aload_n 0, 1) := by decide +kernel
theorem dX4_obtain_51 : decode cX4_obtain 51 = .ok (.getfield 160, 3) := by decide +kernel
theorem dX4_obtain_54 : decode cX4_obtain 54 = .ok (.ifCond .ge 9, 3) := by decide +kernel
theorem dX4_obtain_57 : decode cX4_obtain 57 = .ok (.aload_n 0, 1) := by decide +kernel
theorem dX4_obtain_58 : decode cX4_obtain 58 = .ok (.iload_n 1, 1) := by decide +kernel
theorem dX4_obtain_59 : decode cX4_obtain 59 = .ok (.iload_n 2, 1) := by decide +kernel
theorem dX4_obtain_60 : decode cX4_obtain 60 = .ok (.invokevirtual 166, 3) := by decide +kernel
theorem dX4_obtain_63 : decode cX4_obtain 63 = .ok (.return_, 1) := by decide +kernel
theorem dX4_inject_0 : decode cX4_inject 0 = .ok (.aload_n 0, 1) := by decide +kernel
theorem dX4_inject_1 : decode cX4_inject 1 = .ok (.getfield 65, 3) := by decide +kernel
theorem dX4_inject_4 : decode cX4_inject 4 = .ok (.bipush 6, 2) := by decide +kernel
theorem dX4_inject_6 : decode cX4_inject 6 = .ok (.iload_n 1, 1) := by decide +kernel
theorem dX4_inject_7 : decode cX4_inject 7 = .ok (.imul, 1) := by decide +kernel
theorem dX4_inject_8 : decode cX4_inject 8 = .ok (.aload_n 0, 1) := by decide +kernel
theorem dX4_inject_9 : decode cX4_inject 9 = .ok (.getfield 25, 3) := by decide +kernel
theorem dX4_inject_12 : decode cX4_inject 12 = .ok (.iload_n 1, 1) := by decide +kernel
theorem dX4_inject_13 : decode cX4_inject 13 = .ok (.iaload, 1) := by decide +kernel
theorem dX4_inject_14 : decode cX4_inject 14 = .ok (.iadd, 1) := by decide +kernel
theorem dX4_inject_15 : decode cX4_inject 15 = .ok (.iload_n 2, 1) := by decide +kernel
theorem dX4_inject_16 : decode cX4_inject 16 = .ok (.iastore, 1) := by decide +kernel
theorem dX4_inject_17 : decode cX4_inject 17 = .ok (.aload_n 0, 1) := by decide +kernel
theorem dX4_inject_18 : decode cX4_inject 18 = .ok (.getfield 25, 3) := by decide +kernel
theorem dX4_inject_21 : decode cX4_inject 21 = .ok (.iload_n 1, 1) := by decide +kernel
theorem dX4_inject_22 : decode cX4_inject 22 = .ok (.dup2, 1) := by decide +kernel
theorem dX4_inject_23 : decode cX4_inject 23 = .ok (.iaload, 1) := by decide +kernel
theorem dX4_inject_24 : decode cX4_inject 24 = .ok (.iconst 1, 1) := by decide +kernel
theorem dX4_inject_25 : decode cX4_inject 25 = .ok (.iadd, 1) := by decide +kernel
theorem dX4_inject_26 : decode cX4_inject 26 = .ok (.iastore, 1) := by decide +kernel
theorem dX4_inject_27 : decode cX4_inject 27 = .ok (.return_, 1) := by decide +kernel
theorem dX4_serve_0 : decode cX4_serve 0 = .ok (.aload_n 0, 1) := by decide +kernel
theorem dX4_serve_1 : decode cX4_serve 1 = .ok (.getfield 22, 3) := by decide +kernel
theorem dX4_serve_4 : decode cX4_serve 4 = .ok (.iload_n 1, 1) := by decide +kernel
theorem dX4_serve_5 : decode cX4_serve 5 = .ok (.iaload, 1) := by decide +kernel
theorem dX4_serve_6 : decode cX4_serve 6 = .ok (.istore_n 2, 1) := by decide +kernel
theorem dX4_serve_7 : decode cX4_serve 7 = .ok (.aload_n 0, 1) := by decide +kernel
theorem dX4_serve_8 : decode cX4_serve 8 = .ok (.getfield 25, 3) := by decide +kernel
theorem dX4_serve_11 : decode cX4_serve 11 = .ok (.iload_n 1, 1) := by decide +kernel
theorem dX4_serve_12 : decode cX4_serve 12 = .ok (.iaload, 1) := by decide +kernel
theorem dX4_serve_13 : decode cX4_serve 13 = .ok (.istore_n 3, 1) := by decide +kernel
theorem dX4_serve_14 : decode cX4_serve 14 = .ok (.aload_n 0, 1) := by decide +kernel
theorem dX4_serve_15 : decode cX4_serve 15 = .ok (.iload_n 2, 1) := by decide +kernel
theorem dX4_serve_16 : decode cX4_serve 16 = .ok (.iload_n 3, 1) := by decide +kernel
theorem dX4_serve_17 : decode cX4_serve 17 = .ok (.iconst 2, 1) := by decide +kernel
theorem dX4_serve_18 : decode cX4_serve 18 = .ok (.invokevirtual 98, 3) := by decide +kernel
theorem dX4_serve_21 : decode cX4_serve 21 = .ok (.istore 4, 2) := by decide +kernel
theorem dX4_serve_23 : decode cX4_serve 23 = .ok (.aload_n 0, 1) := by decide +kernel
theorem dX4_serve_24 : decode cX4_serve 24 = .ok (.iload_n 2, 1) := by decide +kernel
theorem dX4_serve_25 : decode cX4_serve 25 = .ok (.iload_n 3, 1) := by decide +kernel
theorem dX4_serve_26 : decode cX4_serve 26 = .ok (.invokevirtual 134, 3) := by decide +kernel
theorem dX4_serve_29 : decode cX4_serve 29 = .ok (.istore 5, 2) := by decide +kernel
theorem dX4_serve_31 : decode cX4_serve 31 = .ok (.iload 5, 2) := by decide +kernel
theorem dX4_serve_33 : decode cX4_serve 33 = .ok (.ifCond .ge 20, 3) := by decide +kernel
theorem dX4_serve_36 : decode cX4_serve 36 = .ok (.aload_n 0, 1) := by decide +kernel
theorem dX4_serve_37 : decode cX4_serve 37 = .ok (.iload 5, 2) := by decide +kernel
theorem dX4_serve_39 : decode cX4_serve 39 = .ok (.ineg, 1) := by decide +kernel
theorem dX4_serve_40 : decode cX4_serve 40 = .ok (.aload_n 0, 1) := by decide +kernel
theorem dX4_serve_41 : decode cX4_serve 41 = .ok (.iload_n 2, 1) := by decide +kernel
theorem dX4_serve_42 : decode cX4_serve 42 = .ok (.iload_n 3, 1) := by decide +kernel
theorem dX4_serve_43 : decode cX4_serve 43 = .ok (.iconst 0, 1) := by decide +kernel
theorem dX4_serve_44 : decode cX4_serve 44 = .ok (.invokevirtual 98, 3) := by decide +kernel
theorem dX4_serve_47 : decode cX4_serve 47 = .ok (.invokevirtual 150, 3) := by decide +kernel
theorem dX4_serve_50 : decode cX4_serve 50 = .ok (.goto 62, 3) := by decide +kernel
theorem dX4_serve_53 : decode cX4_serve 53 = .ok (.iload 5, 2) := by decide +kernel
theorem dX4_serve_55 : decode cX4_serve 55 = .ok (.ifCond .ne 22, 3) := by decide +kernel
theorem dX4_serve_58 : decode cX4_serve 58 = .ok (.aload_n 0, 1) := by decide +kernel
theorem dX4_serve_59 : decode cX4_serve 59 = .ok (.iload_n 1, 1) := by decide +kernel
theorem dX4_serve_60 : decode cX4_serve 60 = .ok (.iload 4, 2) := by decide +kernel
theorem dX4_serve_62 : decode cX4_serve 62 = .ok (.iconst 2, 1) := by decide +kernel
theorem dX4_serve_63 : decode cX4_serve 63 = .ok (.if_icmp .ne 7, 3) := by decide +kernel
theorem dX4_serve_66 : decode cX4_serve 66 = .ok (.iconst 0, 1) := by decide +kernel
theorem dX4_serve_67 : decode cX4_serve 67 = .ok (.goto 4, 3) := by decide +kernel
theorem dX4_serve_70 : decode cX4_serve 70 = .ok (.iconst (-1), 1) := by decide +kernel
theorem dX4_serve_71 : decode cX4_serve 71 = .ok (.invokevirtual 169, 3) := by decide +kernel
theorem dX4_serve_74 : decode cX4_serve 74 = .ok (.goto 38, 3) := by decide +kernel
theorem dX4_serve_77 : decode cX4_serve 77 = .ok (.aload_n 0, 1) := by decide +kernel
theorem dX4_serve_78 : decode cX4_serve 78 = .ok (.getfield 28, 3) := by decide +kernel
theorem dX4_serve_81 : decode cX4_serve 81 = .ok (.iload_n 1, 1) := by decide +kernel
theorem dX4_serve_82 : decode cX4_serve 82 = .ok (.iload 5, 2) := by decide +kernel
theorem dX4_serve_84 : decode cX4_serve 84 = .ok (.iastore, 1) := by decide +kernel
theorem dX4_serve_85 : decode cX4_serve 85 = .ok (.aload_n 0, 1) := by decide +kernel
theorem dX4_serve_86 : decode cX4_serve 86 = .ok (.getfield 62, 3) := by decide +kernel
theorem dX4_serve_89 : decode cX4_serve 89 = .ok (.iload_n 1, 1) := by decide +kernel
theorem dX4_serve_90 : decode cX4_serve 90 = .ok (.iload 5, 2) := by decide +kernel
theorem dX4_serve_92 : decode cX4_serve 92 = .ok (.invokestatic 111, 3) := by decide +kernel
theorem dX4_serve_95 : decode cX4_serve 95 = .ok (.iastore, 1) := by decide +kernel
theorem dX4_serve_96 : decode cX4_serve 96 = .ok (.aload_n 0, 1) := by decide +kernel
theorem dX4_serve_97 : decode cX4_serve 97 = .ok (.getfield 59, 3) := by decide +kernel
theorem dX4_serve_100 : decode cX4_serve 100 = .ok (.iload_n 1, 1) := by decide +kernel
theorem dX4_serve_101 : decode cX4_serve 101 = .ok (.iconst 1, 1) := by decide +kernel
theorem dX4_serve_102 : decode cX4_serve 102 = .ok (.bastore, 1) := by decide +kernel
theorem dX4_serve_103 : decode cX4_serve 103 = .ok (.aload_n 0, 1) := by decide +kernel
theorem dX4_serve_104 : decode cX4_serve 104 = .ok (.iload 5, 2) := by decide +kernel
theorem dX4_serve_106 : decode cX4_serve 106 = .ok (.invokestatic 115, 3) := by decide +kernel
theorem dX4_serve_109 : decode cX4_serve 109 = .ok (.invokevirtual 172, 3) := by decide +kernel
theorem dX4_serve_112 : decode cX4_serve 112 = .ok (.return_, 1) := by decide +kernel
theorem dX4_receive_0 : decode cX4_receive 0 = .ok (.aload_n 0, 1) := by decide +kernel
theorem dX4_receive_1 : decode cX4_receive 1 = .ok (.getfield 28, 3) := by decide +kernel
theorem dX4_receive_4 : decode cX4_receive 4 = .ok (.iload_n 1, 1) := by decide +kernel
theorem dX4_receive_5 : decode cX4_receive 5 = .ok (.dup2, 1) := by decide +kernel
theorem dX4_receive_6 : decode cX4_receive 6 = .ok (.iaload, 1) := by decide +kernel
theorem dX4_receive_7 : decode cX4_receive 7 = .ok (.aload_n 0, 1) := by decide +kernel
theorem dX4_receive_8 : decode cX4_receive 8 = .ok (.getfield 28, 3) := by decide +kernel
theorem dX4_receive_11 : decode cX4_receive 11 = .ok (.iload_n 1, 1) := by decide +kernel
theorem dX4_receive_12 : decode cX4_receive 12 = .ok (.iaload, 1) := by decide +kernel
theorem dX4_receive_13 : decode cX4_receive 13 = .ok (.iconst 1, 1) := by decide +kernel
theorem dX4_receive_14 : decode cX4_receive 14 = .ok (.isub, 1) := by decide +kernel
theorem dX4_receive_15 : decode cX4_receive 15 = .ok (.iand, 1) := by decide +kernel
theorem dX4_receive_16 : decode cX4_receive 16 = .ok (.iastore, 1) := by decide +kernel
theorem dX4_receive_17 : decode cX4_receive 17 = .ok (.aload_n 0, 1) := by decide +kernel
theorem dX4_receive_18 : decode cX4_receive 18 = .ok (.getfield 28, 3) := by decide +kernel
theorem dX4_receive_21 : decode cX4_receive 21 = .ok (.iload_n 1, 1) := by decide +kernel
theorem dX4_receive_22 : decode cX4_receive 22 = .ok (.iaload, 1) := by decide +kernel
theorem dX4_receive_23 : decode cX4_receive 23 = .ok (.ifCond .eq 17, 3) := by decide +kernel
theorem dX4_receive_26 : decode cX4_receive 26 = .ok (.aload_n 0, 1) := by decide +kernel
theorem dX4_receive_27 : decode cX4_receive 27 = .ok (.aload_n 0, 1) := by decide +kernel
theorem dX4_receive_28 : decode cX4_receive 28 = .ok (.getfield 28, 3) := by decide +kernel
theorem dX4_receive_31 : decode cX4_receive 31 = .ok (.iload_n 1, 1) := by decide +kernel
theorem dX4_receive_32 : decode cX4_receive 32 = .ok (.iaload, 1) := by decide +kernel
theorem dX4_receive_33 : decode cX4_receive 33 = .ok (.invokestatic 115, 3) := by decide +kernel
theorem dX4_receive_36 : decode cX4_receive 36 = .ok (.invokevirtual 172, 3) := by decide +kernel
theorem dX4_receive_39 : decode cX4_receive 39 = .ok (.return_, 1) := by decide +kernel
theorem dX4_receive_40 : decode cX4_receive 40 = .ok (.aload_n 0, 1) := by decide +kernel
theorem dX4_receive_41 : decode cX4_receive 41 = .ok (.getfield 59, 3) := by decide +kernel
theorem dX4_receive_44 : decode cX4_receive 44 = .ok (.iload_n 1, 1) := by decide +kernel
theorem dX4_receive_45 : decode cX4_receive 45 = .ok (.iconst 0, 1) := by decide +kernel
theorem dX4_receive_46 : decode cX4_receive 46 = .ok (.bastore, 1) := by decide +kernel
theorem dX4_receive_47 : decode cX4_receive 47 = .ok (.aload_n 0, 1) := by decide +kernel
theorem dX4_receive_48 : decode cX4_receive 48 = .ok (.aload_n 0, 1) := by decide +kernel
theorem dX4_receive_49 : decode cX4_receive 49 = .ok (.getfield 22, 3) := by decide +kernel
theorem dX4_receive_52 : decode cX4_receive 52 = .ok (.iload_n 1, 1) := by decide +kernel
theorem dX4_receive_53 : decode cX4_receive 53 = .ok (.iaload, 1) := by decide +kernel
theorem dX4_receive_54 : decode cX4_receive 54 = .ok (.aload_n 0, 1) := by decide +kernel
theorem dX4_receive_55 : decode cX4_receive 55 = .ok (.getfield 25, 3) := by decide +kernel
theorem dX4_receive_58 : decode cX4_receive 58 = .ok (.iload_n 1, 1) := by decide +kernel
theorem dX4_receive_59 : decode cX4_receive 59 = .ok (.iaload, 1) := by decide +kernel
theorem dX4_receive_60 : decode cX4_receive 60 = .ok (.iconst 2, 1) := by decide +kernel
theorem dX4_receive_61 : decode cX4_receive 61 = .ok (.invokevirtual 98, 3) := by decide +kernel
theorem dX4_receive_64 : decode cX4_receive 64 = .ok (.istore_n 2, 1) := by decide +kernel
theorem dX4_receive_65 : decode cX4_receive 65 = .ok (.aload_n 0, 1) := by decide +kernel
theorem dX4_receive_66 : decode cX4_receive 66 = .ok (.iload_n 1, 1) := by decide +kernel
theorem dX4_receive_67 : decode cX4_receive 67 = .ok (.iload_n 2, 1) := by decide +kernel
theorem dX4_receive_68 : decode cX4_receive 68 = .ok (.iconst 2, 1) := by decide +kernel
theorem dX4_receive_69 : decode cX4_receive 69 = .ok (.if_icmp .ne 12, 3) := by decide +kernel
theorem dX4_receive_72 : decode cX4_receive 72 = .ok (.aload_n 0, 1) := by decide +kernel
theorem dX4_receive_73 : decode cX4_receive 73 = .ok (.getfield 62, 3) := by decide +kernel
theorem dX4_receive_76 : decode cX4_receive 76 = .ok (.iload_n 1, 1) := by decide +kernel
theorem dX4_receive_77 : decode cX4_receive 77 = .ok (.iaload, 1) := by decide +kernel
theorem dX4_receive_78 : decode cX4_receive 78 = .ok (.goto 7, 3) := by decide +kernel
theorem dX4_receive_81 : decode cX4_receive 81 = .ok (.aload_n 0, 1) := by decide +kernel
theorem dX4_receive_82 : decode cX4_receive 82 = .ok (.getfield 160, 3) := by decide +kernel
theorem dX4_receive_85 : decode cX4_receive 85 = .ok (.invokevirtual 169, 3) := by decide +kernel
theorem dX4_receive_88 : decode cX4_receive 88 = .ok (.return_, 1) := by decide +kernel
theorem dX4_note_0 : decode cX4_note 0 = .ok (.aload_n 0, 1) := by decide +kernel
theorem dX4_note_1 : decode cX4_note 1 = .ok (.getfield 50, 3) := by decide +kernel
theorem dX4_note_4 : decode cX4_note 4 = .ok (.aload_n 0, 1) := by decide +kernel
theorem dX4_note_5 : decode cX4_note 5 = .ok (.getfield 175, 3) := by decide +kernel
theorem dX4_note_8 : decode cX4_note 8 = .ok (.iload_n 1, 1) := by decide +kernel
theorem dX4_note_9 : decode cX4_note 9 = .ok (.iastore, 1) := by decide +kernel
theorem dX4_note_10 : decode cX4_note 10 = .ok (.aload_n 0, 1) := by decide +kernel
theorem dX4_note_11 : decode cX4_note 11 = .ok (.dup, 1) := by decide +kernel
theorem dX4_note_12 : decode cX4_note 12 = .ok (.getfield 175, 3) := by decide +kernel
theorem dX4_note_15 : decode cX4_note 15 = .ok (.iconst 1, 1) := by decide +kernel
theorem dX4_note_16 : decode cX4_note 16 = .ok (.iadd, 1) := by decide +kernel
theorem dX4_note_17 : decode cX4_note 17 = .ok (.putfield 175, 3) := by decide +kernel
theorem dX4_note_20 : decode cX4_note 20 = .ok (.return_, 1) := by decide +kernel
theorem dX4_complete_0 : decode cX4_complete 0 = .ok (.aload_n 0, 1) := by decide +kernel
theorem dX4_complete_1 : decode cX4_complete 1 = .ok (.getfield 22, 3) := by decide +kernel
theorem dX4_complete_4 : decode cX4_complete 4 = .ok (.iload_n 1, 1) := by decide +kernel
theorem dX4_complete_5 : decode cX4_complete 5 = .ok (.iaload, 1) := by decide +kernel
theorem dX4_complete_6 : decode cX4_complete 6 = .ok (.istore_n 2, 1) := by decide +kernel
theorem dX4_complete_7 : decode cX4_complete 7 = .ok (.aload_n 0, 1) := by decide +kernel
theorem dX4_complete_8 : decode cX4_complete 8 = .ok (.getfield 154, 3) := by decide +kernel
theorem dX4_complete_11 : decode cX4_complete 11 = .ok (.sipush 300, 3) := by decide +kernel
theorem dX4_complete_14 : decode cX4_complete 14 = .ok (.if_icmp .ne 10, 3) := by decide +kernel
theorem dX4_complete_17 : decode cX4_complete 17 = .ok (.aload_n 0, 1) := by decide +kernel
theorem dX4_complete_18 : decode cX4_complete 18 = .ok (.iconst 5, 1) := by decide +kernel
theorem dX4_complete_19 : decode cX4_complete 19 = .ok (.iload_n 2, 1) := by decide +kernel
theorem dX4_complete_20 : decode cX4_complete 20 = .ok (.invokevirtual 150, 3) := by decide +kernel
theorem dX4_complete_23 : decode cX4_complete 23 = .ok (.return_, 1) := by decide +kernel
theorem dX4_complete_24 : decode cX4_complete 24 = .ok (.aload_n 0, 1) := by decide +kernel
theorem dX4_complete_25 : decode cX4_complete 25 = .ok (.iload_n 2, 1) := by decide +kernel
theorem dX4_complete_26 : decode cX4_complete 26 = .ok (.bipush 6, 2) := by decide +kernel
theorem dX4_complete_28 : decode cX4_complete 28 = .ok (.invokevirtual 91, 3) := by decide +kernel
theorem dX4_complete_31 : decode cX4_complete 31 = .ok (.iconst (-1), 1) := by decide +kernel
theorem dX4_complete_32 : decode cX4_complete 32 = .ok (.if_icmp .eq 27, 3) := by decide +kernel
theorem dX4_complete_35 : decode cX4_complete 35 = .ok (.aload_n 0, 1) := by decide +kernel
theorem dX4_complete_36 : decode cX4_complete 36 = .ok (.getfield 19, 3) := by decide +kernel
theorem dX4_complete_39 : decode cX4_complete 39 = .ok (.iload_n 2, 1) := by decide +kernel
theorem dX4_complete_40 : decode cX4_complete 40 = .ok (.iaload, 1) := by decide +kernel
theorem dX4_complete_41 : decode cX4_complete 41 = .ok (.aload_n 0, 1) := by decide +kernel
theorem dX4_complete_42 : decode cX4_complete 42 = .ok (.iload_n 2, 1) := by decide +kernel
theorem dX4_complete_43 : decode cX4_complete 43 = .ok (.bipush 6, 2) := by decide +kernel
theorem dX4_complete_45 : decode cX4_complete 45 = .ok (.invokevirtual 91, 3) := by decide +kernel
theorem dX4_complete_48 : decode cX4_complete 48 = .ok (.if_icmp .lt 11, 3) := by decide +kernel
theorem dX4_complete_51 : decode cX4_complete 51 = .ok (.aload_n 0, 1) := by decide +kernel
theorem dX4_complete_52 : decode cX4_complete 52 = .ok (.bipush 6, 2) := by decide +kernel
theorem dX4_complete_54 : decode cX4_complete 54 = .ok (.iload_n 2, 1) := by decide +kernel
theorem dX4_complete_55 : decode cX4_complete 55 = .ok (.invokevirtual 150, 3) := by decide +kernel
theorem dX4_complete_58 : decode cX4_complete 58 = .ok (.return_, 1) := by decide +kernel
theorem dX4_complete_59 : decode cX4_complete 59 = .ok (.aload_n 0, 1) := by decide +kernel
theorem dX4_complete_60 : decode cX4_complete 60 = .ok (.getfield 154, 3) := by decide +kernel
theorem dX4_complete_63 : decode cX4_complete 63 = .ok (.istore_n 3, 1) := by decide +kernel
theorem dX4_complete_64 : decode cX4_complete 64 = .ok (.aload_n 0, 1) := by decide +kernel
theorem dX4_complete_65 : decode cX4_complete 65 = .ok (.getfield 31, 3) := by decide +kernel
theorem dX4_complete_68 : decode cX4_complete 68 = .ok (.iload_n 3, 1) := by decide +kernel
theorem dX4_complete_69 : decode cX4_complete 69 = .ok (.iload_n 2, 1) := by decide +kernel
theorem dX4_complete_70 : decode cX4_complete 70 = .ok (.iastore, 1) := by decide +kernel
theorem dX4_complete_71 : decode cX4_complete 71 = .ok (.aload_n 0, 1) := by decide +kernel
theorem dX4_complete_72 : decode cX4_complete 72 = .ok (.getfield 34, 3) := by decide +kernel
theorem dX4_complete_75 : decode cX4_complete 75 = .ok (.iload_n 3, 1) := by decide +kernel
theorem dX4_complete_76 : decode cX4_complete 76 = .ok (.aload_n 0, 1) := by decide +kernel
theorem dX4_complete_77 : decode cX4_complete 77 = .ok (.getfield 56, 3) := by decide +kernel
theorem dX4_complete_80 : decode cX4_complete 80 = .ok (.iload_n 1, 1) := by decide +kernel
theorem dX4_complete_81 : decode cX4_complete 81 = .ok (.iaload, 1) := by decide +kernel
theorem dX4_complete_82 : decode cX4_complete 82 = .ok (.iastore, 1) := by decide +kernel
theorem dX4_complete_83 : decode cX4_complete 83 = .ok (.aload_n 0, 1) := by decide +kernel
theorem dX4_complete_84 : decode cX4_complete 84 = .ok (.getfield 37, 3) := by decide +kernel
theorem dX4_complete_87 : decode cX4_complete 87 = .ok (.iload_n 3, 1) := by decide +kernel
theorem dX4_complete_88 : decode cX4_complete 88 = .ok (.aload_n 0, 1) := by decide +kernel
theorem dX4_complete_89 : decode cX4_complete 89 = .ok (.getfield 56, 3) := by decide +kernel
theorem dX4_complete_92 : decode cX4_complete 92 = .ok (.iload_n 1, 1) := by decide +kernel
theorem dX4_complete_93 : decode cX4_complete 93 = .ok (.iaload, 1) := by decide +kernel
theorem dX4_complete_94 : decode cX4_complete 94 = .ok (.iconst 2, 1) := by decide +kernel
theorem dX4_complete_95 : decode cX4_complete 95 = .ok (.if_icmp .ne 10, 3) := by decide +kernel
theorem dX4_complete_98 : decode cX4_complete 98 = .ok (.aload_n 0, 1) := by decide +kernel
theorem dX4_complete_99 : decode cX4_complete 99 = .ok (.getfield 157, 3) := by decide +kernel
theorem dX4_complete_102 : decode cX4_complete 102 = .ok (.goto 4, 3) := by decide +kernel
theorem dX4_complete_105 : decode cX4_complete 105 = .ok (.iconst 0, 1) := by decide +kernel
theorem dX4_complete_106 : decode cX4_complete 106 = .ok (.iastore, 1) := by decide +kernel
theorem dX4_complete_107 : decode cX4_complete 107 = .ok (.aload_n 0, 1) := by decide +kernel
theorem dX4_complete_108 : decode cX4_complete 108 = .ok (.getfield 40, 3) := by decide +kernel
theorem dX4_complete_111 : decode cX4_complete 111 = .ok (.iload_n 3, 1) := by decide +kernel
theorem dX4_complete_112 : decode cX4_complete 112 = .ok (.iconst 1, 1) := by decide +kernel
theorem dX4_complete_113 : decode cX4_complete 113 = .ok (.bastore, 1) := by decide +kernel
theorem dX4_complete_114 : decode cX4_complete 114 = .ok (.aload_n 0, 1) := by decide +kernel
theorem dX4_complete_115 : decode cX4_complete 115 = .ok (.getfield 44, 3) := by decide +kernel
theorem dX4_complete_118 : decode cX4_complete 118 = .ok (.iload_n 3, 1) := by decide +kernel
theorem dX4_complete_119 : decode cX4_complete 119 = .ok (.aload_n 0, 1) := by decide +kernel
theorem dX4_complete_120 : decode cX4_complete 120 = .ok (.getfield 13, 3) := by decide +kernel
theorem dX4_complete_123 : decode cX4_complete 123 = .ok (.iload_n 2, 1) := by decide +kernel
theorem dX4_complete_124 : decode cX4_complete 124 = .ok (.iaload, 1) := by decide +kernel
theorem dX4_complete_125 : decode cX4_complete 125 = .ok (.iastore, 1) := by decide +kernel
theorem dX4_complete_126 : decode cX4_complete 126 = .ok (.iconst 0, 1) := by decide +kernel
theorem dX4_complete_127 : decode cX4_complete 127 = .ok (.istore 4, 2) := by decide +kernel
theorem dX4_complete_129 : decode cX4_complete 129 = .ok (.iload 4, 2) := by decide +kernel
theorem dX4_complete_131 : decode cX4_complete 131 = .ok (.bipush 6, 2) := by decide +kernel
theorem dX4_complete_133 : decode cX4_complete 133 = .ok (.if_icmp .ge 33, 3) := by decide +kernel
theorem dX4_complete_136 : decode cX4_complete 136 = .ok (.aload_n 0, 1) := by decide +kernel
theorem dX4_complete_137 : decode cX4_complete 137 = .ok (.getfield 47, 3) := by decide +kernel
theorem dX4_complete_140 : decode cX4_complete 140 = .ok (.bipush 6, 2) := by decide +kernel
theorem dX4_complete_142 : decode cX4_complete 142 = .ok (.iload_n 3, 1) := by decide +kernel
theorem dX4_complete_143 : decode cX4_complete 143 = .ok (.imul, 1) := by decide +kernel
theorem dX4_complete_144 : decode cX4_complete 144 = .ok (.iload 4, 2) := by decide +kernel
theorem dX4_complete_146 : decode cX4_complete 146 = .ok (.iadd, 1) := by decide +kernel
theorem dX4_complete_147 : decode cX4_complete 147 = .ok (.aload_n 0, 1) := by decide +kernel
theorem dX4_complete_148 : decode cX4_complete 148 = .ok (.getfield 65, 3) := by decide +kernel
theorem dX4_complete_151 : decode cX4_complete 151 = .ok (.bipush 6, 2) := by decide +kernel
theorem dX4_complete_153 : decode cX4_complete 153 = .ok (.iload_n 1, 1) := by decide +kernel
theorem dX4_complete_154 : decode cX4_complete 154 = .ok (.imul, 1) := by decide +kernel
theorem dX4_complete_155 : decode cX4_complete 155 = .ok (.iload 4, 2) := by decide +kernel
theorem dX4_complete_157 : decode cX4_complete 157 = .ok (.iadd, 1) := by decide +kernel
theorem dX4_complete_158 : decode cX4_complete 158 = .ok (.iaload, 1) := by decide +kernel
theorem dX4_complete_159 : decode cX4_complete 159 = .ok (.iastore, 1) := by decide +kernel
theorem dX4_complete_160 : decode cX4_complete 160 = .ok (.iinc 4 1, 3) := by decide +kernel
theorem dX4_complete_163 : decode cX4_complete 163 = .ok (.goto (-34), 3) := by decide +kernel
theorem dX4_complete_166 : decode cX4_complete 166 = .ok (.aload_n 0, 1) := by decide +kernel
theorem dX4_complete_167 : decode cX4_complete 167 = .ok (.iconst 2, 1) := by decide +kernel
theorem dX4_complete_168 : decode cX4_complete 168 = .ok (.iload_n 3, 1) := by decide +kernel
theorem dX4_complete_169 : decode cX4_complete 169 = .ok (.imul, 1) := by decide +kernel
theorem dX4_complete_170 : decode cX4_complete 170 = .ok (.invokevirtual 178, 3) := by decide +kernel
theorem dX4_complete_173 : decode cX4_complete 173 = .ok (.aload_n 0, 1) := by decide +kernel
theorem dX4_complete_174 : decode cX4_complete 174 = .ok (.getfield 19, 3) := by decide +kernel
theorem dX4_complete_177 : decode cX4_complete 177 = .ok (.iload_n 2, 1) := by decide +kernel
theorem dX4_complete_178 : decode cX4_complete 178 = .ok (.dup2, 1) := by decide +kernel
theorem dX4_complete_179 : decode cX4_complete 179 = .ok (.iaload, 1) := by decide +kernel
theorem dX4_complete_180 : decode cX4_complete 180 = .ok (.iconst 1, 1) := by decide +kernel
theorem dX4_complete_181 : decode cX4_complete 181 = .ok (.iadd, 1) := by decide +kernel
theorem dX4_complete_182 : decode cX4_complete 182 = .ok (.iastore, 1) := by decide +kernel
theorem dX4_complete_183 : decode cX4_complete 183 = .ok (.aload_n 0, 1) := by decide +kernel
theorem dX4_complete_184 : decode cX4_complete 184 = .ok (.dup, 1) := by decide +kernel
theorem dX4_complete_185 : decode cX4_complete 185 = .ok (.getfield 154, 3) := by decide +kernel
theorem dX4_complete_188 : decode cX4_complete 188 = .ok (.iconst 1, 1) := by decide +kernel
theorem dX4_complete_189 : decode cX4_complete 189 = .ok (.iadd, 1) := by decide +kernel
theorem dX4_complete_190 : decode cX4_complete 190 = .ok (.putfield 154, 3) := by decide +kernel
theorem dX4_complete_193 : decode cX4_complete 193 = .ok (.aload_n 0, 1) := by decide +kernel
theorem dX4_complete_194 : decode cX4_complete 194 = .ok (.dup, 1) := by decide +kernel
theorem dX4_complete_195 : decode cX4_complete 195 = .ok (.getfield 121, 3) := by decide +kernel
theorem dX4_complete_198 : decode cX4_complete 198 = .ok (.iconst 1, 1) := by decide +kernel
theorem dX4_complete_199 : decode cX4_complete 199 = .ok (.isub, 1) := by decide +kernel
theorem dX4_complete_200 : decode cX4_complete 200 = .ok (.putfield 121, 3) := by decide +kernel
theorem dX4_complete_203 : decode cX4_complete 203 = .ok (.aload_n 0, 1) := by decide +kernel
theorem dX4_complete_204 : decode cX4_complete 204 = .ok (.iload_n 3, 1) := by decide +kernel
theorem dX4_complete_205 : decode cX4_complete 205 = .ok (.putfield 160, 3) := by decide +kernel
theorem dX4_complete_208 : decode cX4_complete 208 = .ok (.return_, 1) := by decide +kernel
theorem dX4_goOn_0 : decode cX4_goOn 0 = .ok (.aload_n 0, 1) := by decide +kernel
theorem dX4_goOn_1 : decode cX4_goOn 1 = .ok (.getfield 121, 3) := by decide +kernel
theorem dX4_goOn_4 : decode cX4_goOn 4 = .ok (.iconst 1, 1) := by decide +kernel
theorem dX4_goOn_5 : decode cX4_goOn 5 = .ok (.isub, 1) := by decide +kernel
theorem dX4_goOn_6 : decode cX4_goOn 6 = .ok (.istore_n 1, 1) := by decide +kernel
theorem dX4_goOn_7 : decode cX4_goOn 7 = .ok (.aload_n 0, 1) := by decide +kernel
theorem dX4_goOn_8 : decode cX4_goOn 8 = .ok (.getfield 59, 3) := by decide +kernel
theorem dX4_goOn_11 : decode cX4_goOn 11 = .ok (.iload_n 1, 1) := by decide +kernel
theorem dX4_goOn_12 : decode cX4_goOn 12 = .ok (.baload, 1) := by decide +kernel
theorem dX4_goOn_13 : decode cX4_goOn 13 = .ok (.ifCond .eq 11, 3) := by decide +kernel
theorem dX4_goOn_16 : decode cX4_goOn 16 = .ok (.aload_n 0, 1) := by decide +kernel
theorem dX4_goOn_17 : decode cX4_goOn 17 = .ok (.iload_n 1, 1) := by decide +kernel
theorem dX4_goOn_18 : decode cX4_goOn 18 = .ok (.invokevirtual 181, 3) := by decide +kernel
theorem dX4_goOn_21 : decode cX4_goOn 21 = .ok (.goto 36, 3) := by decide +kernel
theorem dX4_goOn_24 : decode cX4_goOn 24 = .ok (.aload_n 0, 1) := by decide +kernel
theorem dX4_goOn_25 : decode cX4_goOn 25 = .ok (.getfield 25, 3) := by decide +kernel
theorem dX4_goOn_28 : decode cX4_goOn 28 = .ok (.iload_n 1, 1) := by decide +kernel
theorem dX4_goOn_29 : decode cX4_goOn 29 = .ok (.iaload, 1) := by decide +kernel
theorem dX4_goOn_30 : decode cX4_goOn 30 = .ok (.aload_n 0, 1) := by decide +kernel
theorem dX4_goOn_31 : decode cX4_goOn 31 = .ok (.getfield 13, 3) := by decide +kernel
theorem dX4_goOn_34 : decode cX4_goOn 34 = .ok (.aload_n 0, 1) := by decide +kernel
theorem dX4_goOn_35 : decode cX4_goOn 35 = .ok (.getfield 22, 3) := by decide +kernel
theorem dX4_goOn_38 : decode cX4_goOn 38 = .ok (.iload_n 1, 1) := by decide +kernel
theorem dX4_goOn_39 : decode cX4_goOn 39 = .ok (.iaload, 1) := by decide +kernel
theorem dX4_goOn_40 : decode cX4_goOn 40 = .ok (.iaload, 1) := by decide +kernel
theorem dX4_goOn_41 : decode cX4_goOn 41 = .ok (.if_icmp .ne 11, 3) := by decide +kernel
theorem dX4_goOn_44 : decode cX4_goOn 44 = .ok (.aload_n 0, 1) := by decide +kernel
theorem dX4_goOn_45 : decode cX4_goOn 45 = .ok (.iload_n 1, 1) := by decide +kernel
theorem dX4_goOn_46 : decode cX4_goOn 46 = .ok (.invokevirtual 184, 3) := by decide +kernel
theorem dX4_goOn_49 : decode cX4_goOn 49 = .ok (.goto 8, 3) := by decide +kernel
theorem dX4_goOn_52 : decode cX4_goOn 52 = .ok (.aload_n 0, 1) := by decide +kernel
theorem dX4_goOn_53 : decode cX4_goOn 53 = .ok (.iload_n 1, 1) := by decide +kernel
theorem dX4_goOn_54 : decode cX4_goOn 54 = .ok (.invokevirtual 187, 3) := by decide +kernel
theorem dX4_goOn_57 : decode cX4_goOn 57 = .ok (.return_, 1) := by decide +kernel
theorem dX4_clean_0 : decode cX4_clean 0 = .ok (.aload_n 0, 1) := by decide +kernel
theorem dX4_clean_1 : decode cX4_clean 1 = .ok (.iconst 0, 1) := by decide +kernel
theorem dX4_clean_2 : decode cX4_clean 2 = .ok (.putfield 121, 3) := by decide +kernel
theorem dX4_clean_5 : decode cX4_clean 5 = .ok (.aload_n 0, 1) := by decide +kernel
theorem dX4_clean_6 : decode cX4_clean 6 = .ok (.iconst 0, 1) := by decide +kernel
theorem dX4_clean_7 : decode cX4_clean 7 = .ok (.putfield 144, 3) := by decide +kernel
theorem dX4_clean_10 : decode cX4_clean 10 = .ok (.aload_n 0, 1) := by decide +kernel
theorem dX4_clean_11 : decode cX4_clean 11 = .ok (.iconst (-1), 1) := by decide +kernel
theorem dX4_clean_12 : decode cX4_clean 12 = .ok (.putfield 160, 3) := by decide +kernel
theorem dX4_clean_15 : decode cX4_clean 15 = .ok (.return_, 1) := by decide +kernel
theorem dX4_destroy_0 : decode cX4_destroy 0 = .ok (.aload_n 0, 1) := by decide +kernel
theorem dX4_destroy_1 : decode cX4_destroy 1 = .ok (.getfield 40, 3) := by decide +kernel
theorem dX4_destroy_4 : decode cX4_destroy 4 = .ok (.iload_n 1, 1) := by decide +kernel
theorem dX4_destroy_5 : decode cX4_destroy 5 = .ok (.iconst 0, 1) := by decide +kernel
theorem dX4_destroy_6 : decode cX4_destroy 6 = .ok (.bastore, 1) := by decide +kernel
theorem dX4_destroy_7 : decode cX4_destroy 7 = .ok (.aload_n 0, 1) := by decide +kernel
theorem dX4_destroy_8 : decode cX4_destroy 8 = .ok (.iconst 2, 1) := by decide +kernel
theorem dX4_destroy_9 : decode cX4_destroy 9 = .ok (.iload_n 1, 1) := by decide +kernel
theorem dX4_destroy_10 : decode cX4_destroy 10 = .ok (.imul, 1) := by decide +kernel
theorem dX4_destroy_11 : decode cX4_destroy 11 = .ok (.iconst 1, 1) := by decide +kernel
theorem dX4_destroy_12 : decode cX4_destroy 12 = .ok (.iadd, 1) := by decide +kernel
theorem dX4_destroy_13 : decode cX4_destroy 13 = .ok (.invokevirtual 178, 3) := by decide +kernel
theorem dX4_destroy_16 : decode cX4_destroy 16 = .ok (.return_, 1) := by decide +kernel
theorem dX4_make_0 : decode cX4_make 0 = .ok (.aload_n 0, 1) := by decide +kernel
theorem dX4_make_1 : decode cX4_make 1 = .ok (.iload_n 1, 1) := by decide +kernel
theorem dX4_make_2 : decode cX4_make 2 = .ok (.invokevirtual 172, 3) := by decide +kernel
theorem dX4_make_5 : decode cX4_make 5 = .ok (.aload_n 0, 1) := by decide +kernel
theorem dX4_make_6 : decode cX4_make 6 = .ok (.getfield 121, 3) := by decide +kernel
theorem dX4_make_9 : decode cX4_make 9 = .ok (.ifCond .le 17, 3) := by decide +kernel
theorem dX4_make_12 : decode cX4_make 12 = .ok (.aload_n 0, 1) := by decide +kernel
theorem dX4_make_13 : decode cX4_make 13 = .ok (.getfield 144, 3) := by decide +kernel
theorem dX4_make_16 : decode cX4_make 16 = .ok (.ifCond .ne 10, 3) := by decide +kernel
theorem dX4_make_19 : decode cX4_make 19 = .ok (.aload_n 0, 1) := by decide +kernel
theorem dX4_make_20 : decode cX4_make 20 = .ok (.invokevirtual 190, 3) := by decide +kernel
theorem dX4_make_23 : decode cX4_make 23 = .ok (.goto (-18), 3) := by decide +kernel
theorem dX4_make_26 : decode cX4_make 26 = .ok (.return_, 1) := by decide +kernel
theorem dX4_settle_0 : decode cX4_settle 0 = .ok (.aload_n 0, 1) := by decide +kernel
theorem dX4_settle_1 : decode cX4_settle 1 = .ok (.getfield 144, 3) := by decide +kernel
theorem dX4_settle_4 : decode cX4_settle 4 = .ok (.ifCond .ne 5, 3) := by decide +kernel
theorem dX4_settle_7 : decode cX4_settle 7 = .ok (.iconst 0, 1) := by decide +kernel
theorem dX4_settle_8 : decode cX4_settle 8 = .ok (.ireturn, 1) := by decide +kernel
theorem dX4_settle_9 : decode cX4_settle 9 = .ok (.aload_n 0, 1) := by decide +kernel
theorem dX4_settle_10 : decode cX4_settle 10 = .ok (.aload_n 0, 1) := by decide +kernel
theorem dX4_settle_11 : decode cX4_settle 11 = .ok (.getfield 144, 3) := by decide +kernel
theorem dX4_settle_14 : decode cX4_settle 14 = .ok (.putfield 193, 3) := by decide +kernel
theorem dX4_settle_17 : decode cX4_settle 17 = .ok (.aload_n 0, 1) := by decide +kernel
theorem dX4_settle_18 : decode cX4_settle 18 = .ok (.aload_n 0, 1) := by decide +kernel
theorem dX4_settle_19 : decode cX4_settle 19 = .ok (.getfield 147, 3) := by decide +kernel
theorem dX4_settle_22 : decode cX4_settle 22 = .ok (.putfield 68, 3) := by decide +kernel
theorem dX4_settle_25 : decode cX4_settle 25 = .ok (.aload_n 0, 1) := by decide +kernel
theorem dX4_settle_26 : decode cX4_settle 26 = .ok (.aload_n 0, 1) := by decide +kernel
theorem dX4_settle_27 : decode cX4_settle 27 = .ok (.getfield 121, 3) := by decide +kernel
theorem dX4_settle_30 : decode cX4_settle 30 = .ok (.putfield 196, 3) := by decide +kernel
theorem dX4_settle_33 : decode cX4_settle 33 = .ok (.iconst 0, 1) := by decide +kernel
theorem dX4_settle_34 : decode cX4_settle 34 = .ok (.istore_n 2, 1) := by decide +kernel
theorem dX4_settle_35 : decode cX4_settle 35 = .ok (.iload_n 2, 1) := by decide +kernel
theorem dX4_settle_36 : decode cX4_settle 36 = .ok (.aload_n 0, 1) := by decide +kernel
theorem dX4_settle_37 : decode cX4_settle 37 = .ok (.getfield 121, 3) := by decide +kernel
theorem dX4_settle_40 : decode cX4_settle 40 = .ok (.if_icmp .ge 21, 3) := by decide +kernel
theorem dX4_settle_43 : decode cX4_settle 43 = .ok (.aload_n 0, 1) := by decide +kernel
theorem dX4_settle_44 : decode cX4_settle 44 = .ok (.getfield 53, 3) := by decide +kernel
theorem dX4_settle_47 : decode cX4_settle 47 = .ok (.iload_n 2, 1) := by decide +kernel
theorem dX4_settle_48 : decode cX4_settle 48 = .ok (.aload_n 0, 1) := by decide +kernel
theorem dX4_settle_49 : decode cX4_settle 49 = .ok (.getfield 22, 3) := by decide +kernel
theorem dX4_settle_52 : decode cX4_settle 52 = .ok (.iload_n 2, 1) := by decide +kernel
theorem dX4_settle_53 : decode cX4_settle 53 = .ok (.iaload, 1) := by decide +kernel
theorem dX4_settle_54 : decode cX4_settle 54 = .ok (.iastore, 1) := by decide +kernel
theorem dX4_settle_55 : decode cX4_settle 55 = .ok (.iinc 2 1, 3) := by decide +kernel
theorem dX4_settle_58 : decode cX4_settle 58 = .ok (.goto (-23), 3) := by decide +kernel
theorem dX4_settle_61 : decode cX4_settle 61 = .ok (.aload_n 0, 1) := by decide +kernel
theorem dX4_settle_62 : decode cX4_settle 62 = .ok (.getfield 154, 3) := by decide +kernel
theorem dX4_settle_65 : decode cX4_settle 65 = .ok (.iconst 1, 1) := by decide +kernel
theorem dX4_settle_66 : decode cX4_settle 66 = .ok (.isub, 1) := by decide +kernel
theorem dX4_settle_67 : decode cX4_settle 67 = .ok (.istore_n 2, 1) := by decide +kernel
theorem dX4_settle_68 : decode cX4_settle 68 = .ok (.iload_n 2, 1) := by decide +kernel
theorem dX4_settle_69 : decode cX4_settle 69 = .ok (.iload_n 1, 1) := by decide +kernel
theorem dX4_settle_70 : decode cX4_settle 70 = .ok (.if_icmp .lt 33, 3) := by decide +kernel
theorem dX4_settle_73 : decode cX4_settle 73 = .ok (.aload_n 0, 1) := by decide +kernel
theorem dX4_settle_74 : decode cX4_settle 74 = .ok (.getfield 40, 3) := by decide +kernel
theorem dX4_settle_77 : decode cX4_settle 77 = .ok (.iload_n 2, 1) := by decide +kernel
theorem dX4_settle_78 : decode cX4_settle 78 = .ok (.baload, 1) := by decide +kernel
theorem dX4_settle_79 : decode cX4_settle 79 = .ok (.ifCond .eq 18, 3) := by decide +kernel
theorem dX4_settle_82 : decode cX4_settle 82 = .ok (.aload_n 0, 1) := by decide +kernel
theorem dX4_settle_83 : decode cX4_settle 83 = .ok (.getfield 34, 3) := by decide +kernel
theorem dX4_settle_86 : decode cX4_settle 86 = .ok (.iload_n 2, 1) := by decide +kernel
theorem dX4_settle_87 : decode cX4_settle 87 = .ok (.iaload, 1) := by decide +kernel
theorem dX4_settle_88 : decode cX4_settle 88 = .ok (.iconst 1, 1) := by decide +kernel
theorem dX4_settle_89 : decode cX4_settle 89 = .ok (.if_icmp .ne 8, 3) := by decide +kernel
theorem dX4_settle_92 : decode cX4_settle 92 = .ok (.aload_n 0, 1) := by decide +kernel
theorem dX4_settle_93 : decode cX4_settle 93 = .ok (.iload_n 2, 1) := by decide +kernel
theorem dX4_settle_94 : decode cX4_settle 94 = .ok (.invokevirtual 199, 3) := by decide +kernel
theorem dX4_settle_97 : decode cX4_settle 97 = .ok (.iinc 2 (-1), 3) := by decide +kernel
theorem dX4_settle_100 : decode cX4_settle 100 = .ok (.goto (-32), 3) := by decide +kernel
theorem dX4_settle_103 : decode cX4_settle 103 = .ok (.aload_n 0, 1) := by decide +kernel
theorem dX4_settle_104 : decode cX4_settle 104 = .ok (.iconst 0, 1) := by decide +kernel
theorem dX4_settle_105 : decode cX4_settle 105 = .ok (.putfield 121, 3) := by decide +kernel
theorem dX4_settle_108 : decode cX4_settle 108 = .ok (.iconst 1, 1) := by decide +kernel
theorem dX4_settle_109 : decode cX4_settle 109 = .ok (.ireturn, 1) := by decide +kernel
theorem dX4_request_0 : decode cX4_request 0 = .ok (.aload_n 0, 1) := by decide +kernel
theorem dX4_request_1 : decode cX4_request 1 = .ok (.getfield 154, 3) := by decide +kernel
theorem dX4_request_4 : decode cX4_request 4 = .ok (.istore_n 3, 1) := by decide +kernel
theorem dX4_request_5 : decode cX4_request 5 = .ok (.aload_n 0, 1) := by decide +kernel
theorem dX4_request_6 : decode cX4_request 6 = .ok (.invokevirtual 202, 3) := by decide +kernel
theorem dX4_request_9 : decode cX4_request 9 = .ok (.aload_n 0, 1) := by decide +kernel
theorem dX4_request_10 : decode cX4_request 10 = .ok (.iload_n 1, 1) := by decide +kernel
theorem dX4_request_11 : decode cX4_request 11 = .ok (.iload_n 2, 1) := by decide +kernel
theorem dX4_request_12 : decode cX4_request 12 = .ok (.invokevirtual 118, 3) := by decide +kernel
theorem dX4_request_15 : decode cX4_request 15 = .ok (.istore 4, 2) := by decide +kernel
theorem dX4_request_17 : decode cX4_request 17 = .ok (.iload 4, 2) := by decide +kernel
theorem dX4_request_19 : decode cX4_request 19 = .ok (.ifCond .ge 14, 3) := by decide +kernel
theorem dX4_request_22 : decode cX4_request 22 = .ok (.aload_n 0, 1) := by decide +kernel
theorem dX4_request_23 : decode cX4_request 23 = .ok (.iload 4, 2) := by decide +kernel
theorem dX4_request_25 : decode cX4_request 25 = .ok (.ineg, 1) := by decide +kernel
theorem dX4_request_26 : decode cX4_request 26 = .ok (.iload_n 1, 1) := by decide +kernel
theorem dX4_request_27 : decode cX4_request 27 = .ok (.invokevirtual 150, 3) := by decide +kernel
theorem dX4_request_30 : decode cX4_request 30 = .ok (.goto 9, 3) := by decide +kernel
theorem dX4_request_33 : decode cX4_request 33 = .ok (.aload_n 0, 1) := by decide +kernel
theorem dX4_request_34 : decode cX4_request 34 = .ok (.iload 4, 2) := by decide +kernel
theorem dX4_request_36 : decode cX4_request 36 = .ok (.invokevirtual 205, 3) := by decide +kernel
theorem dX4_request_39 : decode cX4_request 39 = .ok (.aload_n 0, 1) := by decide +kernel
theorem dX4_request_40 : decode cX4_request 40 = .ok (.iload_n 3, 1) := by decide +kernel
theorem dX4_request_41 : decode cX4_request 41 = .ok (.invokevirtual 208, 3) := by decide +kernel
theorem dX4_request_44 : decode cX4_request 44 = .ok (.ifCond .eq 7, 3) := by decide +kernel
theorem dX4_request_47 : decode cX4_request 47 = .ok (.iconst (-1), 1) := by decide +kernel
theorem dX4_request_48 : decode cX4_request 48 = .ok (.goto 7, 3) := by decide +kernel
theorem dX4_request_51 : decode cX4_request 51 = .ok (.aload_n 0, 1) := by decide +kernel
theorem dX4_request_52 : decode cX4_request 52 = .ok (.getfield 160, 3) := by decide +kernel
theorem dX4_request_55 : decode cX4_request 55 = .ok (.ireturn, 1) := by decide +kernel
theorem dX4_resolve_0 : decode cX4_resolve 0 = .ok (.aload_n 0, 1) := by decide +kernel
theorem dX4_resolve_1 : decode cX4_resolve 1 = .ok (.iload_n 1, 1) := by decide +kernel
theorem dX4_resolve_2 : decode cX4_resolve 2 = .ok (.iload_n 2, 1) := by decide +kernel
theorem dX4_resolve_3 : decode cX4_resolve 3 = .ok (.invokestatic 95, 3) := by decide +kernel
theorem dX4_resolve_6 : decode cX4_resolve 6 = .ok (.ifCond .eq 7, 3) := by decide +kernel
theorem dX4_resolve_9 : decode cX4_resolve 9 = .ok (.iconst 0, 1) := by decide +kernel
theorem dX4_resolve_10 : decode cX4_resolve 10 = .ok (.goto 4, 3) := by decide +kernel
theorem dX4_resolve_13 : decode cX4_resolve 13 = .ok (.iconst 1, 1) := by decide +kernel
theorem dX4_resolve_14 : decode cX4_resolve 14 = .ok (.putfield 72, 3) := by decide +kernel
theorem dX4_resolve_17 : decode cX4_resolve 17 = .ok (.aload_n 0, 1) := by decide +kernel
theorem dX4_resolve_18 : decode cX4_resolve 18 = .ok (.getfield 72, 3) := by decide +kernel
theorem dX4_resolve_21 : decode cX4_resolve 21 = .ok (.ifCond .eq 5, 3) := by decide +kernel
theorem dX4_resolve_24 : decode cX4_resolve 24 = .ok (.iconst 0, 1) := by decide +kernel
theorem dX4_resolve_25 : decode cX4_resolve 25 = .ok (.ireturn, 1) := by decide +kernel
theorem dX4_resolve_26 : decode cX4_resolve 26 = .ok (.aload_n 0, 1) := by decide +kernel
theorem dX4_resolve_27 : decode cX4_resolve 27 = .ok (.iload_n 1, 1) := by decide +kernel
theorem dX4_resolve_28 : decode cX4_resolve 28 = .ok (.iload_n 2, 1) := by decide +kernel
theorem dX4_resolve_29 : decode cX4_resolve 29 = .ok (.invokevirtual 211, 3) := by decide +kernel
theorem dX4_resolve_32 : decode cX4_resolve 32 = .ok (.istore_n 3, 1) := by decide +kernel
theorem dX4_resolve_33 : decode cX4_resolve 33 = .ok (.aload_n 0, 1) := by decide +kernel
theorem dX4_resolve_34 : decode cX4_resolve 34 = .ok (.iload_n 3, 1) := by decide +kernel
theorem dX4_resolve_35 : decode cX4_resolve 35 = .ok (.ifCond .ge 7, 3) := by decide +kernel
theorem dX4_resolve_38 : decode cX4_resolve 38 = .ok (.iconst 2, 1) := by decide +kernel
theorem dX4_resolve_39 : decode cX4_resolve 39 = .ok (.goto 4, 3) := by decide +kernel
theorem dX4_resolve_42 : decode cX4_resolve 42 = .ok (.iconst 0, 1) := by decide +kernel
theorem dX4_resolve_43 : decode cX4_resolve 43 = .ok (.putfield 72, 3) := by decide +kernel
theorem dX4_resolve_46 : decode cX4_resolve 46 = .ok (.aload_n 0, 1) := by decide +kernel
theorem dX4_resolve_47 : decode cX4_resolve 47 = .ok (.getfield 72, 3) := by decide +kernel
theorem dX4_resolve_50 : decode cX4_resolve 50 = .ok (.ifCond .eq 7, 3) := by decide +kernel
theorem dX4_resolve_53 : decode cX4_resolve 53 = .ok (.iconst 0, 1) := by decide +kernel
theorem dX4_resolve_54 : decode cX4_resolve 54 = .ok (.goto 4, 3) := by decide +kernel
theorem dX4_resolve_57 : decode cX4_resolve 57 = .ok (.iload_n 3, 1) := by decide +kernel
theorem dX4_resolve_58 : decode cX4_resolve 58 = .ok (.ireturn, 1) := by decide +kernel
theorem dX4_isInstance_0 : decode cX4_isInstance 0 = .ok (.iload_n 1, 1) := by decide +kernel
theorem dX4_isInstance_1 : decode cX4_isInstance 1 = .ok (.iconst 0, 1) := by decide +kernel
theorem dX4_isInstance_2 : decode cX4_isInstance 2 = .ok (.aload_n 0, 1) := by decide +kernel
theorem dX4_isInstance_3 : decode cX4_isInstance 3 = .ok (.getfield 154, 3) := by decide +kernel
theorem dX4_isInstance_6 : decode cX4_isInstance 6 = .ok (.iconst 1, 1) := by decide +kernel
theorem dX4_isInstance_7 : decode cX4_isInstance 7 = .ok (.isub, 1) := by decide +kernel
theorem dX4_isInstance_8 : decode cX4_isInstance 8 = .ok (.invokestatic 78, 3) := by decide +kernel
theorem dX4_isInstance_11 : decode cX4_isInstance 11 = .ok (.ireturn, 1) := by decide +kernel
theorem dX4_isLater_0 : decode cX4_isLater 0 = .ok (.iload_n 2, 1) := by decide +kernel
theorem dX4_isLater_1 : decode cX4_isLater 1 = .ok (.iconst 0, 1) := by decide +kernel
theorem dX4_isLater_2 : decode cX4_isLater 2 = .ok (.aload_n 0, 1) := by decide +kernel
theorem dX4_isLater_3 : decode cX4_isLater 3 = .ok (.getfield 13, 3) := by decide +kernel
theorem dX4_isLater_6 : decode cX4_isLater 6 = .ok (.iload_n 1, 1) := by decide +kernel
theorem dX4_isLater_7 : decode cX4_isLater 7 = .ok (.iaload, 1) := by decide +kernel
theorem dX4_isLater_8 : decode cX4_isLater 8 = .ok (.iconst 1, 1) := by decide +kernel
theorem dX4_isLater_9 : decode cX4_isLater 9 = .ok (.isub, 1) := by decide +kernel
theorem dX4_isLater_10 : decode cX4_isLater 10 = .ok (.invokestatic 78, 3) := by decide +kernel
theorem dX4_isLater_13 : decode cX4_isLater 13 = .ok (.ifCond .eq 18, 3) := by decide +kernel
theorem dX4_isLater_16 : decode cX4_isLater 16 = .ok (.aload_n 0, 1) := by decide +kernel
theorem dX4_isLater_17 : decode cX4_isLater 17 = .ok (.iload_n 1, 1) := by decide +kernel
theorem dX4_isLater_18 : decode cX4_isLater 18 = .ok (.iload_n 2, 1) := by decide +kernel
theorem dX4_isLater_19 : decode cX4_isLater 19 = .ok (.iconst 2, 1) := by decide +kernel
theorem dX4_isLater_20 : decode cX4_isLater 20 = .ok (.invokevirtual 98, 3) := by decide +kernel
theorem dX4_isLater_23 : decode cX4_isLater 23 = .ok (.iconst 3, 1) := by decide +kernel
theorem dX4_isLater_24 : decode cX4_isLater 24 = .ok (.if_icmp .ne 7, 3) := by decide +kernel
theorem dX4_isLater_27 : decode cX4_isLater 27 = .ok (.iconst 1, 1) := by decide +kernel
theorem dX4_isLater_28 : decode cX4_isLater 28 = .ok (.goto 4, 3) := by decide +kernel
theorem dX4_isLater_31 : decode cX4_isLater 31 = .ok (.iconst 0, 1) := by decide +kernel
theorem dX4_isLater_32 : decode cX4_isLater 32 = .ok (.ireturn, 1) := by decide +kernel
theorem dX4_provide_0 : decode cX4_provide 0 = .ok (.aload_n 0, 1) := by decide +kernel
theorem dX4_provide_1 : decode cX4_provide 1 = .ok (.aload_n 0, 1) := by decide +kernel
theorem dX4_provide_2 : decode cX4_provide 2 = .ok (.iload_n 1, 1) := by decide +kernel
theorem dX4_provide_3 : decode cX4_provide 3 = .ok (.invokevirtual 214, 3) := by decide +kernel
theorem dX4_provide_6 : decode cX4_provide 6 = .ok (.ifCond .ne 7, 3) := by decide +kernel
theorem dX4_provide_9 : decode cX4_provide 9 = .ok (.iconst 1, 1) := by decide +kernel
theorem dX4_provide_10 : decode cX4_provide 10 = .ok (.goto 35, 3) := by decide +kernel
theorem dX4_provide_13 : decode cX4_provide 13 = .ok (.aload_n 0, 1) := by decide +kernel
theorem dX4_provide_14 : decode cX4_provide 14 = .ok (.aload_n 0, 1) := by decide +kernel
theorem dX4_provide_15 : decode cX4_provide 15 = .ok (.getfield 31, 3) := by decide +kernel
theorem dX4_provide_18 : decode cX4_provide 18 = .ok (.iload_n 1, 1) := by decide +kernel
theorem dX4_provide_19 : decode cX4_provide 19 = .ok (.iaload, 1) := by decide +kernel
theorem dX4_provide_20 : decode cX4_provide 20 = .ok (.iload_n 2, 1) := by decide +kernel
theorem dX4_provide_21 : decode cX4_provide 21 = .ok (.invokevirtual 217, 3) := by decide +kernel
theorem dX4_provide_24 : decode cX4_provide 24 = .ok (.ifCond .ne 7, 3) := by decide +kernel
theorem dX4_provide_27 : decode cX4_provide 27 = .ok (.iconst 2, 1) := by decide +kernel
theorem dX4_provide_28 : decode cX4_provide 28 = .ok (.goto 17, 3) := by decide +kernel
theorem dX4_provide_31 : decode cX4_provide 31 = .ok (.aload_n 0, 1) := by decide +kernel
theorem dX4_provide_32 : decode cX4_provide 32 = .ok (.getfield 40, 3) := by decide +kernel
theorem dX4_provide_35 : decode cX4_provide 35 = .ok (.iload_n 1, 1) := by decide +kernel
theorem dX4_provide_36 : decode cX4_provide 36 = .ok (.baload, 1) := by decide +kernel
theorem dX4_provide_37 : decode cX4_provide 37 = .ok (.ifCond .ne 7, 3) := by decide +kernel
theorem dX4_provide_40 : decode cX4_provide 40 = .ok (.iconst 3, 1) := by decide +kernel
theorem dX4_provide_41 : decode cX4_provide 41 = .ok (.goto 4, 3) := by decide +kernel
theorem dX4_provide_44 : decode cX4_provide 44 = .ok (.iconst 0, 1) := by decide +kernel
theorem dX4_provide_45 : decode cX4_provide 45 = .ok (.putfield 72, 3) := by decide +kernel
theorem dX4_provide_48 : decode cX4_provide 48 = .ok (.aload_n 0, 1) := by decide +kernel
theorem dX4_provide_49 : decode cX4_provide 49 = .ok (.getfield 72, 3) := by decide +kernel
theorem dX4_provide_52 : decode cX4_provide 52 = .ok (.ifCond .eq 5, 3) := by decide +kernel
theorem dX4_provide_55 : decode cX4_provide 55 = .ok (.iconst 0, 1) := by decide +kernel
theorem dX4_provide_56 : decode cX4_provide 56 = .ok (.ireturn, 1) := by decide +kernel
theorem dX4_provide_57 : decode cX4_provide 57 = .ok (.aload_n 0, 1) := by decide +kernel
theorem dX4_provide_58 : decode cX4_provide 58 = .ok (.getfield 31, 3) := by decide +kernel
theorem dX4_provide_61 : decode cX4_provide 61 = .ok (.iload_n 1, 1) := by decide +kernel
theorem dX4_provide_62 : decode cX4_provide 62 = .ok (.iaload, 1) := by decide +kernel
theorem dX4_provide_63 : decode cX4_provide 63 = .ok (.istore_n 3, 1) := by decide +kernel
theorem dX4_provide_64 : decode cX4_provide 64 = .ok (.aload_n 0, 1) := by decide +kernel
theorem dX4_provide_65 : decode cX4_provide 65 = .ok (.aload_n 0, 1) := by decide +kernel
theorem dX4_provide_66 : decode cX4_provide 66 = .ok (.iload_n 3, 1) := by decide +kernel
theorem dX4_provide_67 : decode cX4_provide 67 = .ok (.iload_n 2, 1) := by decide +kernel
theorem dX4_provide_68 : decode cX4_provide 68 = .ok (.iconst 0, 1) := by decide +kernel
theorem dX4_provide_69 : decode cX4_provide 69 = .ok (.invokevirtual 98, 3) := by decide +kernel
theorem dX4_provide_72 : decode cX4_provide 72 = .ok (.aload_n 0, 1) := by decide +kernel
theorem dX4_provide_73 : decode cX4_provide 73 = .ok (.iload_n 3, 1) := by decide +kernel
theorem dX4_provide_74 : decode cX4_provide 74 = .ok (.iload_n 2, 1) := by decide +kernel
theorem dX4_provide_75 : decode cX4_provide 75 = .ok (.iconst 1, 1) := by decide +kernel
theorem dX4_provide_76 : decode cX4_provide 76 = .ok (.invokevirtual 98, 3) := by decide +kernel
theorem dX4_provide_79 : decode cX4_provide 79 = .ok (.invokevirtual 211, 3) := by decide +kernel
theorem dX4_provide_82 : decode cX4_provide 82 = .ok (.istore 4, 2) := by decide +kernel
theorem dX4_provide_84 : decode cX4_provide 84 = .ok (.aload_n 0, 1) := by decide +kernel
theorem dX4_provide_85 : decode cX4_provide 85 = .ok (.iload 4, 2) := by decide +kernel
theorem dX4_provide_87 : decode cX4_provide 87 = .ok (.ifCond .ge 7, 3) := by decide +kernel
theorem dX4_provide_90 : decode cX4_provide 90 = .ok (.iconst 3, 1) := by decide +kernel
theorem dX4_provide_91 : decode cX4_provide 91 = .ok (.goto 4, 3) := by decide +kernel
theorem dX4_provide_94 : decode cX4_provide 94 = .ok (.iconst 0, 1) := by decide +kernel
theorem dX4_provide_95 : decode cX4_provide 95 = .ok (.putfield 72, 3) := by decide +kernel
theorem dX4_provide_98 : decode cX4_provide 98 = .ok (.aload_n 0, 1) := by decide +kernel
theorem dX4_provide_99 : decode cX4_provide 99 = .ok (.getfield 72, 3) := by decide +kernel
theorem dX4_provide_102 : decode cX4_provide 102 = .ok (.ifCond .eq 7, 3) := by decide +kernel
theorem dX4_provide_105 : decode cX4_provide 105 = .ok (.iconst 0, 1) := by decide +kernel
theorem dX4_provide_106 : decode cX4_provide 106 = .ok (.goto 5, 3) := by decide +kernel
theorem dX4_provide_109 : decode cX4_provide 109 = .ok (.iload 4, 2) := by decide +kernel
theorem dX4_provide_111 : decode cX4_provide 111 = .ok (.ireturn, 1) := by decide +kernel
theorem dX4_start_0 : decode cX4_start 0 = .ok (.aload_n 0, 1) := by decide +kernel
theorem dX4_start_1 : decode cX4_start 1 = .ok (.getfield 154, 3) := by decide +kernel
theorem dX4_start_4 : decode cX4_start 4 = .ok (.istore_n 1, 1) := by decide +kernel
theorem dX4_start_5 : decode cX4_start 5 = .ok (.aload_n 0, 1) := by decide +kernel
theorem dX4_start_6 : decode cX4_start 6 = .ok (.invokevirtual 202, 3) := by decide +kernel
theorem dX4_start_9 : decode cX4_start 9 = .ok (.iconst 0, 1) := by decide +kernel
theorem dX4_start_10 : decode cX4_start 10 = .ok (.istore_n 2, 1) := by decide +kernel
theorem dX4_start_11 : decode cX4_start 11 = .ok (.iload_n 2, 1) := by decide +kernel
theorem dX4_start_12 : decode cX4_start 12 = .ok (.aload_n 0, 1) := by decide +kernel
theorem dX4_start_13 : decode cX4_start 13 = .ok (.getfield 75, 3) := by decide +kernel
theorem dX4_start_16 : decode cX4_start 16 = .ok (.if_icmp .ge 47, 3) := by decide +kernel
theorem dX4_start_19 : decode cX4_start 19 = .ok (.aload_n 0, 1) := by decide +kernel
theorem dX4_start_20 : decode cX4_start 20 = .ok (.getfield 144, 3) := by decide +kernel
theorem dX4_start_23 : decode cX4_start 23 = .ok (.ifCond .ne 40, 3) := by decide +kernel
theorem dX4_start_26 : decode cX4_start 26 = .ok (.aload_n 0, 1) := by decide +kernel
theorem dX4_start_27 : decode cX4_start 27 = .ok (.iload_n 2, 1) := by decide +kernel
theorem dX4_start_28 : decode cX4_start 28 = .ok (.invokevirtual 105, 3) := by decide +kernel
theorem dX4_start_31 : decode cX4_start 31 = .ok (.ifCond .eq 26, 3) := by decide +kernel
theorem dX4_start_34 : decode cX4_start 34 = .ok (.aload_n 0, 1) := by decide +kernel
theorem dX4_start_35 : decode cX4_start 35 = .ok (.iload_n 2, 1) := by decide +kernel
theorem dX4_start_36 : decode cX4_start 36 = .ok (.iconst 1, 1) := by decide +kernel
theorem dX4_start_37 : decode cX4_start 37 = .ok (.invokevirtual 91, 3) := by decide +kernel
theorem dX4_start_40 : decode cX4_start 40 = .ok (.ifCond .ne 17, 3) := by decide +kernel
theorem dX4_start_43 : decode cX4_start 43 = .ok (.aload_n 0, 1) := by decide +kernel
theorem dX4_start_44 : decode cX4_start 44 = .ok (.iload_n 2, 1) := by decide +kernel
theorem dX4_start_45 : decode cX4_start 45 = .ok (.iconst 4, 1) := by decide +kernel
theorem dX4_start_46 : decode cX4_start 46 = .ok (.invokevirtual 91, 3) := by decide +kernel
theorem dX4_start_49 : decode cX4_start 49 = .ok (.ifCond .ne 8, 3) := by decide +kernel
theorem dX4_start_52 : decode cX4_start 52 = .ok (.aload_n 0, 1) := by decide +kernel
theorem dX4_start_53 : decode cX4_start 53 = .ok (.iload_n 2, 1) := by decide +kernel
theorem dX4_start_54 : decode cX4_start 54 = .ok (.invokevirtual 205, 3) := by decide +kernel
theorem dX4_start_57 : decode cX4_start 57 = .ok (.iinc 2 1, 3) := by decide +kernel
theorem dX4_start_60 : decode cX4_start 60 = .ok (.goto (-49), 3) := by decide +kernel
theorem dX4_start_63 : decode cX4_start 63 = .ok (.aload_n 0, 1) := by decide +kernel
theorem dX4_start_64 : decode cX4_start 64 = .ok (.aload_n 0, 1) := by decide +kernel
theorem dX4_start_65 : decode cX4_start 65 = .ok (.iload_n 1, 1) := by decide +kernel
theorem dX4_start_66 : decode cX4_start 66 = .ok (.invokevirtual 208, 3) := by decide +kernel
theorem dX4_start_69 : decode cX4_start 69 = .ok (.ifCond .eq 7, 3) := by decide +kernel
theorem dX4_start_72 : decode cX4_start 72 = .ok (.iconst 1, 1) := by decide +kernel
theorem dX4_start_73 : decode cX4_start 73 = .ok (.goto 4, 3) := by decide +kernel
theorem dX4_start_76 : decode cX4_start 76 = .ok (.iconst 0, 1) := by decide +kernel
theorem dX4_start_77 : decode cX4_start 77 = .ok (.putfield 72, 3) := by decide +kernel
theorem dX4_start_80 : decode cX4_start 80 = .ok (.aload_n 0, 1) := by decide +kernel
theorem dX4_start_81 : decode cX4_start 81 = .ok (.getfield 72, 3) := by decide +kernel
theorem dX4_start_84 : decode cX4_start 84 = .ok (.ifCond .eq 7, 3) := by decide +kernel
theorem dX4_start_87 : decode cX4_start 87 = .ok (.iconst 0, 1) := by decide +kernel
theorem dX4_start_88 : decode cX4_start 88 = .ok (.goto 9, 3) := by decide +kernel
theorem dX4_start_91 : decode cX4_start 91 = .ok (.aload_n 0, 1) := by decide +kernel
theorem dX4_start_92 : decode cX4_start 92 = .ok (.getfield 154, 3) := by decide +kernel
theorem dX4_start_95 : decode cX4_start 95 = .ok (.iload_n 1, 1) := by decide +kernel
theorem dX4_start_96 : decode cX4_start 96 = .ok (.isub, 1) := by decide +kernel
theorem dX4_start_97 : decode cX4_start 97 = .ok (.ireturn, 1) := by decide +kernel
theorem dX4_begin_0 : decode cX4_begin 0 = .ok (.aload_n 0, 1) := by decide +kernel
theorem dX4_begin_1 : decode cX4_begin 1 = .ok (.aload_n 0, 1) := by decide +kernel
theorem dX4_begin_2 : decode cX4_begin 2 = .ok (.getfield 157, 3) := by decide +kernel
theorem dX4_begin_5 : decode cX4_begin 5 = .ok (.iconst 5, 1) := by decide +kernel
theorem dX4_begin_6 : decode cX4_begin 6 = .ok (.if_icmp .ne 7, 3) := by decide +kernel
theorem dX4_begin_9 : decode cX4_begin 9 = .ok (.iconst 1, 1) := by decide +kernel
theorem dX4_begin_10 : decode cX4_begin 10 = .ok (.goto 4, 3) := by decide +kernel
theorem dX4_begin_13 : decode cX4_begin 13 = .ok (.iconst 0, 1) := by decide +kernel
theorem dX4_begin_14 : decode cX4_begin 14 = .ok (.putfield 72, 3) := by decide +kernel
theorem dX4_begin_17 : decode cX4_begin 17 = .ok (.aload_n 0, 1) := by decide +kernel
theorem dX4_begin_18 : decode cX4_begin 18 = .ok (.getfield 72, 3) := by decide +kernel
theorem dX4_begin_21 : decode cX4_begin 21 = .ok (.ifCond .eq 5, 3) := by decide +kernel
theorem dX4_begin_24 : decode cX4_begin 24 = .ok (.iconst 0, 1) := by decide +kernel
theorem dX4_begin_25 : decode cX4_begin 25 = .ok (.ireturn, 1) := by decide +kernel
theorem dX4_begin_26 : decode cX4_begin 26 = .ok (.aload_n 0, 1) := by decide +kernel
theorem dX4_begin_27 : decode cX4_begin 27 = .ok (.dup, 1) := by decide +kernel
theorem dX4_begin_28 : decode cX4_begin 28 = .ok (.getfield 157, 3) := by decide +kernel
theorem dX4_begin_31 : decode cX4_begin 31 = .ok (.iconst 1, 1) := by decide +kernel
theorem dX4_begin_32 : decode cX4_begin 32 = .ok (.iadd, 1) := by decide +kernel
theorem dX4_begin_33 : decode cX4_begin 33 = .ok (.putfield 157, 3) := by decide +kernel
theorem dX4_begin_36 : decode cX4_begin 36 = .ok (.aload_n 0, 1) := by decide +kernel
theorem dX4_begin_37 : decode cX4_begin 37 = .ok (.getfield 157, 3) := by decide +kernel
theorem dX4_begin_40 : decode cX4_begin 40 = .ok (.ireturn, 1) := by decide +kernel
theorem dX4_endScope_0 : decode cX4_endScope 0 = .ok (.iconst 0, 1) := by decide +kernel
theorem dX4_endScope_1 : decode cX4_endScope 1 = .ok (.istore_n 1, 1) := by decide +kernel
theorem dX4_endScope_2 : decode cX4_endScope 2 = .ok (.aload_n 0, 1) := by decide +kernel
theorem dX4_endScope_3 : decode cX4_endScope 3 = .ok (.getfield 154, 3) := by decide +kernel
theorem dX4_endScope_6 : decode cX4_endScope 6 = .ok (.iconst 1, 1) := by decide +kernel
theorem dX4_endScope_7 : decode cX4_endScope 7 = .ok (.isub, 1) := by decide +kernel
theorem dX4_endScope_8 : decode cX4_endScope 8 = .ok (.istore_n 2, 1) := by decide +kernel
theorem dX4_endScope_9 : decode cX4_endScope 9 = .ok (.iload_n 2, 1) := by decide +kernel
theorem dX4_endScope_10 : decode cX4_endScope 10 = .ok (.ifCond .lt 49, 3) := by decide +kernel
theorem dX4_endScope_13 : decode cX4_endScope 13 = .ok (.aload_n 0, 1) := by decide +kernel
theorem dX4_endScope_14 : decode cX4_endScope 14 = .ok (.getfield 40, 3) := by decide +kernel
theorem dX4_endScope_17 : decode cX4_endScope 17 = .ok (.iload_n 2, 1) := by decide +kernel
theorem dX4_endScope_18 : decode cX4_endScope 18 = .ok (.baload, 1) := by decide +kernel
theorem dX4_endScope_19 : decode cX4_endScope 19 = .ok (.ifCond .eq 34, 3) := by decide +kernel
theorem dX4_endScope_22 : decode cX4_endScope 22 = .ok (.aload_n 0, 1) := by decide +kernel
theorem dX4_endScope_23 : decode cX4_endScope 23 = .ok (.getfield 34, 3) := by decide +kernel
theorem dX4_endScope_26 : decode cX4_endScope 26 = .ok (.iload_n 2, 1) := by decide +kernel
theorem dX4_endScope_27 : decode cX4_endScope 27 = .ok (.iaload, 1) := by decide +kernel
theorem dX4_endScope_28 : decode cX4_endScope 28 = .ok (.iconst 2, 1) := by decide +kernel
theorem dX4_endScope_29 : decode cX4_endScope 29 = .ok (.if_icmp .ne 24, 3) := by decide +kernel
theorem dX4_endScope_32 : decode cX4_endScope 32 = .ok (.aload_n 0, 1) := by decide +kernel
theorem dX4_endScope_33 : decode cX4_endScope 33 = .ok (.getfield 37, 3) := by decide +kernel
theorem dX4_endScope_36 : decode cX4_endScope 36 = .ok (.iload_n 2, 1) := by decide +kernel
theorem dX4_endScope_37 : decode cX4_endScope 37 = .ok (.iaload, 1) := by decide +kernel
theorem dX4_endScope_38 : decode cX4_endScope 38 = .ok (.aload_n 0, 1) := by decide +kernel
theorem dX4_endScope_39 : decode cX4_endScope 39 = .ok (.getfield 157, 3) := by decide +kernel
theorem dX4_endScope_42 : decode cX4_endScope 42 = .ok (.if_icmp .ne 11, 3) := by decide +kernel
theorem dX4_endScope_45 : decode cX4_endScope 45 = .ok (.aload_n 0, 1) := by decide +kernel
theorem dX4_endScope_46 : decode cX4_endScope 46 = .ok (.iload_n 2, 1) := by decide +kernel
theorem dX4_endScope_47 : decode cX4_endScope 47 = .ok (.invokevirtual 199, 3) := by decide +kernel
theorem dX4_endScope_50 : decode cX4_endScope 50 = .ok (.iinc 1 1, 3) := by decide +kernel
theorem dX4_endScope_53 : decode cX4_endScope 53 = .ok (.iinc 2 (-1), 3) := by decide +kernel
theorem dX4_endScope_56 : decode cX4_endScope 56 = .ok (.goto (-47), 3) := by decide +kernel
theorem dX4_endScope_59 : decode cX4_endScope 59 = .ok (.aload_n 0, 1) := by decide +kernel
theorem dX4_endScope_60 : decode cX4_endScope 60 = .ok (.dup, 1) := by decide +kernel
theorem dX4_endScope_61 : decode cX4_endScope 61 = .ok (.getfield 157, 3) := by decide +kernel
theorem dX4_endScope_64 : decode cX4_endScope 64 = .ok (.iconst 1, 1) := by decide +kernel
theorem dX4_endScope_65 : decode cX4_endScope 65 = .ok (.isub, 1) := by decide +kernel
theorem dX4_endScope_66 : decode cX4_endScope 66 = .ok (.putfield 157, 3) := by decide +kernel
theorem dX4_endScope_69 : decode cX4_endScope 69 = .ok (.iload_n 1, 1) := by decide +kernel
theorem dX4_endScope_70 : decode cX4_endScope 70 = .ok (.ireturn, 1) := by decide +kernel
theorem dX4_end_0 : decode cX4_end 0 = .ok (.aload_n 0, 1) := by decide +kernel
theorem dX4_end_1 : decode cX4_end 1 = .ok (.aload_n 0, 1) := by decide +kernel
theorem dX4_end_2 : decode cX4_end 2 = .ok (.getfield 157, 3) := by decide +kernel
theorem dX4_end_5 : decode cX4_end 5 = .ok (.ifCond .ne 7, 3) := by decide +kernel
theorem dX4_end_8 : decode cX4_end 8 = .ok (.iconst 1, 1) := by decide +kernel
theorem dX4_end_9 : decode cX4_end 9 = .ok (.goto 4, 3) := by decide +kernel
theorem dX4_end_12 : decode cX4_end 12 = .ok (.iconst 0, 1) := by decide +kernel
theorem dX4_end_13 : decode cX4_end 13 = .ok (.putfield 72, 3) := by decide +kernel
theorem dX4_end_16 : decode cX4_end 16 = .ok (.aload_n 0, 1) := by decide +kernel
theorem dX4_end_17 : decode cX4_end 17 = .ok (.getfield 72, 3) := by decide +kernel
theorem dX4_end_20 : decode cX4_end 20 = .ok (.ifCond .eq 7, 3) := by decide +kernel
theorem dX4_end_23 : decode cX4_end 23 = .ok (.iconst 0, 1) := by decide +kernel
theorem dX4_end_24 : decode cX4_end 24 = .ok (.goto 7, 3) := by decide +kernel
theorem dX4_end_27 : decode cX4_end 27 = .ok (.aload_n 0, 1) := by decide +kernel
theorem dX4_end_28 : decode cX4_end 28 = .ok (.invokevirtual 220, 3) := by decide +kernel
theorem dX4_end_31 : decode cX4_end 31 = .ok (.ireturn, 1) := by decide +kernel
theorem dX4_close_0 : decode cX4_close 0 = .ok (.aload_n 0, 1) := by decide +kernel
theorem dX4_close_1 : decode cX4_close 1 = .ok (.iconst 0, 1) := by decide +kernel
theorem dX4_close_2 : decode cX4_close 2 = .ok (.putfield 72, 3) := by decide +kernel
theorem dX4_close_5 : decode cX4_close 5 = .ok (.iconst 0, 1) := by decide +kernel
theorem dX4_close_6 : decode cX4_close 6 = .ok (.istore_n 1, 1) := by decide +kernel
theorem dX4_close_7 : decode cX4_close 7 = .ok (.aload_n 0, 1) := by decide +kernel
theorem dX4_close_8 : decode cX4_close 8 = .ok (.getfield 157, 3) := by decide +kernel
theorem dX4_close_11 : decode cX4_close 11 = .ok (.ifCond .le 13, 3) := by decide +kernel
theorem dX4_close_14 : decode cX4_close 14 = .ok (.iload_n 1, 1) := by decide +kernel
theorem dX4_close_15 : decode cX4_close 15 = .ok (.aload_n 0, 1) := by decide +kernel
theorem dX4_close_16 : decode cX4_close 16 = .ok (.invokevirtual 220, 3) := by decide +kernel
theorem dX4_close_19 : decode cX4_close 19 = .ok (.iadd, 1) := by decide +kernel
theorem dX4_close_20 : decode cX4_close 20 = .ok (.istore_n 1, 1) := by decide +kernel
theorem dX4_close_21 : decode cX4_close 21 = .ok (.goto (-14), 3) := by decide +kernel
theorem dX4_close_24 : decode cX4_close 24 = .ok (.aload_n 0, 1) := by decide +kernel
theorem dX4_close_25 : decode cX4_close 25 = .ok (.getfield 154, 3) := by decide +kernel
theorem dX4_close_28 : decode cX4_close 28 = .ok (.iconst 1, 1) := by decide +kernel
theorem dX4_close_29 : decode cX4_close 29 = .ok (.isub, 1) := by decide +kernel
theorem dX4_close_30 : decode cX4_close 30 = .ok (.istore_n 2, 1) := by decide +kernel
theorem dX4_close_31 : decode cX4_close 31 = .ok (.iload_n 2, 1) := by decide +kernel
theorem dX4_close_32 : decode cX4_close 32 = .ok (.ifCond .lt 35, 3) := by decide +kernel
theorem dX4_close_35 : decode cX4_close 35 = .ok (.aload_n 0, 1) := by decide +kernel
theorem dX4_close_36 : decode cX4_close 36 = .ok (.getfield 40, 3) := by decide +kernel
theorem dX4_close_39 : decode cX4_close 39 = .ok (.iload_n 2, 1) := by decide +kernel
theorem dX4_close_40 : decode cX4_close 40 = .ok (.baload, 1) := by decide +kernel
theorem dX4_close_41 : decode cX4_close 41 = .ok (.ifCond .eq 20, 3) := by decide +kernel
theorem dX4_close_44 : decode cX4_close 44 = .ok (.aload_n 0, 1) := by decide +kernel
theorem dX4_close_45 : decode cX4_close 45 = .ok (.getfield 34, 3) := by decide +kernel
theorem dX4_close_48 : decode cX4_close 48 = .ok (.iload_n 2, 1) := by decide +kernel
theorem dX4_close_49 : decode cX4_close 49 = .ok (.iaload, 1) := by decide +kernel
theorem dX4_close_50 : decode cX4_close 50 = .ok (.ifCond .ne 11, 3) := by decide +kernel
theorem dX4_close_53 : decode cX4_close 53 = .ok (.aload_n 0, 1) := by decide +kernel
theorem dX4_close_54 : decode cX4_close 54 = .ok (.iload_n 2, 1) := by decide +kernel
theorem dX4_close_55 : decode cX4_close 55 = .ok (.invokevirtual 199, 3) := by decide +kernel
theorem dX4_close_58 : decode cX4_close 58 = .ok (.iinc 1 1, 3) := by decide +kernel
theorem dX4_close_61 : decode cX4_close 61 = .ok (.iinc 2 (-1), 3) := by decide +kernel
theorem dX4_close_64 : decode cX4_close 64 = .ok (.goto (-33), 3) := by decide +kernel
theorem dX4_close_67 : decode cX4_close 67 = .ok (.iload_n 1, 1) := by decide +kernel
theorem dX4_close_68 : decode cX4_close 68 = .ok (.ireturn, 1) := by decide +kernel
theorem dX4_instances_0 : decode cX4_instances 0 = .ok (.aload_n 0, 1) := by decide +kernel
theorem dX4_instances_1 : decode cX4_instances 1 = .ok (.iconst 0, 1) := by decide +kernel
theorem dX4_instances_2 : decode cX4_instances 2 = .ok (.putfield 72, 3) := by decide +kernel
theorem dX4_instances_5 : decode cX4_instances 5 = .ok (.aload_n 0, 1) := by decide +kernel
theorem dX4_instances_6 : decode cX4_instances 6 = .ok (.getfield 154, 3) := by decide +kernel
theorem dX4_instances_9 : decode cX4_instances 9 = .ok (.ireturn, 1) := by decide +kernel
theorem dX4_componentOf_0 : decode cX4_componentOf 0 = .ok (.aload_n 0, 1) := by decide +kernel
theorem dX4_componentOf_1 : decode cX4_componentOf 1 = .ok (.aload_n 0, 1) := by decide +kernel
theorem dX4_componentOf_2 : decode cX4_componentOf 2 = .ok (.iload_n 1, 1) := by decide +kernel
theorem dX4_componentOf_3 : decode cX4_componentOf 3 = .ok (.invokevirtual 214, 3) := by decide +kernel
theorem dX4_componentOf_6 : decode cX4_componentOf 6 = .ok (.ifCond .eq 7, 3) := by decide +kernel
theorem dX4_componentOf_9 : decode cX4_componentOf 9 = .ok (.iconst 0, 1) := by decide +kernel
theorem dX4_componentOf_10 : decode cX4_componentOf 10 = .ok (.goto 4, 3) := by decide +kernel
theorem dX4_componentOf_13 : decode cX4_componentOf 13 = .ok (.iconst 1, 1) := by decide +kernel
theorem dX4_componentOf_14 : decode cX4_componentOf 14 = .ok (.putfield 72, 3) := by decide +kernel
theorem dX4_componentOf_17 : decode cX4_componentOf 17 = .ok (.aload_n 0, 1) := by decide +kernel
theorem dX4_componentOf_18 : decode cX4_componentOf 18 = .ok (.getfield 72, 3) := by decide +kernel
theorem dX4_componentOf_21 : decode cX4_componentOf 21 = .ok (.ifCond .eq 7, 3) := by decide +kernel
theorem dX4_componentOf_24 : decode cX4_componentOf 24 = .ok (.iconst 0, 1) := by decide +kernel
theorem dX4_componentOf_25 : decode cX4_componentOf 25 = .ok (.goto 9, 3) := by decide +kernel
theorem dX4_componentOf_28 : decode cX4_componentOf 28 = .ok (.aload_n 0, 1) := by decide +kernel
theorem dX4_componentOf_29 : decode cX4_componentOf 29 = .ok (.getfield 31, 3) := by decide +kernel
theorem dX4_componentOf_32 : decode cX4_componentOf 32 = .ok (.iload_n 1, 1) := by decide +kernel
theorem dX4_componentOf_33 : decode cX4_componentOf 33 = .ok (.iaload, 1) := by decide +kernel
theorem dX4_componentOf_34 : decode cX4_componentOf 34 = .ok (.ireturn, 1) := by decide +kernel
theorem dX4_isAlive_0 : decode cX4_isAlive 0 = .ok (.aload_n 0, 1) := by decide +kernel
theorem dX4_isAlive_1 : decode cX4_isAlive 1 = .ok (.aload_n 0, 1) := by decide +kernel
theorem dX4_isAlive_2 : decode cX4_isAlive 2 = .ok (.iload_n 1, 1) := by decide +kernel
theorem dX4_isAlive_3 : decode cX4_isAlive 3 = .ok (.invokevirtual 214, 3) := by decide +kernel
theorem dX4_isAlive_6 : decode cX4_isAlive 6 = .ok (.ifCond .eq 7, 3) := by decide +kernel
theorem dX4_isAlive_9 : decode cX4_isAlive 9 = .ok (.iconst 0, 1) := by decide +kernel
theorem dX4_isAlive_10 : decode cX4_isAlive 10 = .ok (.goto 4, 3) := by decide +kernel
theorem dX4_isAlive_13 : decode cX4_isAlive 13 = .ok (.iconst 1, 1) := by decide +kernel
theorem dX4_isAlive_14 : decode cX4_isAlive 14 = .ok (.putfield 72, 3) := by decide +kernel
theorem dX4_isAlive_17 : decode cX4_isAlive 17 = .ok (.aload_n 0, 1) := by decide +kernel
theorem dX4_isAlive_18 : decode cX4_isAlive 18 = .ok (.getfield 72, 3) := by decide +kernel
theorem dX4_isAlive_21 : decode cX4_isAlive 21 = .ok (.ifCond .ne 16, 3) := by decide +kernel
theorem dX4_isAlive_24 : decode cX4_isAlive 24 = .ok (.aload_n 0, 1) := by decide +kernel
theorem dX4_isAlive_25 : decode cX4_isAlive 25 = .ok (.getfield 40, 3) := by decide +kernel
theorem dX4_isAlive_28 : decode cX4_isAlive 28 = .ok (.iload_n 1, 1) := by decide +kernel
theorem dX4_isAlive_29 : decode cX4_isAlive 29 = .ok (.baload, 1) := by decide +kernel
theorem dX4_isAlive_30 : decode cX4_isAlive 30 = .ok (.ifCond .eq 7, 3) := by decide +kernel
theorem dX4_isAlive_33 : decode cX4_isAlive 33 = .ok (.iconst 1, 1) := by decide +kernel
theorem dX4_isAlive_34 : decode cX4_isAlive 34 = .ok (.goto 4, 3) := by decide +kernel
theorem dX4_isAlive_37 : decode cX4_isAlive 37 = .ok (.iconst 0, 1) := by decide +kernel
theorem dX4_isAlive_38 : decode cX4_isAlive 38 = .ok (.ireturn, 1) := by decide +kernel
theorem dX4_injected_0 : decode cX4_injected 0 = .ok (.aload_n 0, 1) := by decide +kernel
theorem dX4_injected_1 : decode cX4_injected 1 = .ok (.aload_n 0, 1) := by decide +kernel
theorem dX4_injected_2 : decode cX4_injected 2 = .ok (.iload_n 1, 1) := by decide +kernel
theorem dX4_injected_3 : decode cX4_injected 3 = .ok (.invokevirtual 214, 3) := by decide +kernel
theorem dX4_injected_6 : decode cX4_injected 6 = .ok (.ifCond .ne 7, 3) := by decide +kernel
theorem dX4_injected_9 : decode cX4_injected 9 = .ok (.iconst 1, 1) := by decide +kernel
theorem dX4_injected_10 : decode cX4_injected 10 = .ok (.goto 24, 3) := by decide +kernel
theorem dX4_injected_13 : decode cX4_injected 13 = .ok (.iload_n 2, 1) := by decide +kernel
theorem dX4_injected_14 : decode cX4_injected 14 = .ok (.iconst 0, 1) := by decide +kernel
theorem dX4_injected_15 : decode cX4_injected 15 = .ok (.aload_n 0, 1) := by decide +kernel
theorem dX4_injected_16 : decode cX4_injected 16 = .ok (.getfield 44, 3) := by decide +kernel
theorem dX4_injected_19 : decode cX4_injected 19 = .ok (.iload_n 1, 1) := by decide +kernel
theorem dX4_injected_20 : decode cX4_injected 20 = .ok (.iaload, 1) := by decide +kernel
theorem dX4_injected_21 : decode cX4_injected 21 = .ok (.iconst 1, 1) := by decide +kernel
theorem dX4_injected_22 : decode cX4_injected 22 = .ok (.isub, 1) := by decide +kernel
theorem dX4_injected_23 : decode cX4_injected 23 = .ok (.invokestatic 78, 3) := by decide +kernel
theorem dX4_injected_26 : decode cX4_injected 26 = .ok (.ifCond .ne 7, 3) := by decide +kernel
theorem dX4_injected_29 : decode cX4_injected 29 = .ok (.iconst 2, 1) := by decide +kernel
theorem dX4_injected_30 : decode cX4_injected 30 = .ok (.goto 4, 3) := by decide +kernel
theorem dX4_injected_33 : decode cX4_injected 33 = .ok (.iconst 0, 1) := by decide +kernel
theorem dX4_injected_34 : decode cX4_injected 34 = .ok (.putfield 72, 3) := by decide +kernel
theorem dX4_injected_37 : decode cX4_injected 37 = .ok (.aload_n 0, 1) := by decide +kernel
theorem dX4_injected_38 : decode cX4_injected 38 = .ok (.getfield 72, 3) := by decide +kernel
theorem dX4_injected_41 : decode cX4_injected 41 = .ok (.ifCond .eq 7, 3) := by decide +kernel
theorem dX4_injected_44 : decode cX4_injected 44 = .ok (.iconst 0, 1) := by decide +kernel
theorem dX4_injected_45 : decode cX4_injected 45 = .ok (.goto 14, 3) := by decide +kernel
theorem dX4_injected_48 : decode cX4_injected 48 = .ok (.aload_n 0, 1) := by decide +kernel
theorem dX4_injected_49 : decode cX4_injected 49 = .ok (.getfield 47, 3) := by decide +kernel
theorem dX4_injected_52 : decode cX4_injected 52 = .ok (.bipush 6, 2) := by decide +kernel
theorem dX4_injected_54 : decode cX4_injected 54 = .ok (.iload_n 1, 1) := by decide +kernel
theorem dX4_injected_55 : decode cX4_injected 55 = .ok (.imul, 1) := by decide +kernel
theorem dX4_injected_56 : decode cX4_injected 56 = .ok (.iload_n 2, 1) := by decide +kernel
theorem dX4_injected_57 : decode cX4_injected 57 = .ok (.iadd, 1) := by decide +kernel
theorem dX4_injected_58 : decode cX4_injected 58 = .ok (.iaload, 1) := by decide +kernel
theorem dX4_injected_59 : decode cX4_injected 59 = .ok (.ireturn, 1) := by decide +kernel
theorem dX4_event_0 : decode cX4_event 0 = .ok (.aload_n 0, 1) := by decide +kernel
theorem dX4_event_1 : decode cX4_event 1 = .ok (.iconst 0, 1) := by decide +kernel
theorem dX4_event_2 : decode cX4_event 2 = .ok (.putfield 72, 3) := by decide +kernel
theorem dX4_event_5 : decode cX4_event 5 = .ok (.iload_n 1, 1) := by decide +kernel
theorem dX4_event_6 : decode cX4_event 6 = .ok (.iconst (-1), 1) := by decide +kernel
theorem dX4_event_7 : decode cX4_event 7 = .ok (.if_icmp .ne 10, 3) := by decide +kernel
theorem dX4_event_10 : decode cX4_event 10 = .ok (.aload_n 0, 1) := by decide +kernel
theorem dX4_event_11 : decode cX4_event 11 = .ok (.getfield 175, 3) := by decide +kernel
theorem dX4_event_14 : decode cX4_event 14 = .ok (.goto 27, 3) := by decide +kernel
theorem dX4_event_17 : decode cX4_event 17 = .ok (.iload_n 1, 1) := by decide +kernel
theorem dX4_event_18 : decode cX4_event 18 = .ok (.iconst 0, 1) := by decide +kernel
theorem dX4_event_19 : decode cX4_event 19 = .ok (.aload_n 0, 1) := by decide +kernel
theorem dX4_event_20 : decode cX4_event 20 = .ok (.getfield 175, 3) := by decide +kernel
theorem dX4_event_23 : decode cX4_event 23 = .ok (.iconst 1, 1) := by decide +kernel
theorem dX4_event_24 : decode cX4_event 24 = .ok (.isub, 1) := by decide +kernel
theorem dX4_event_25 : decode cX4_event 25 = .ok (.invokestatic 78, 3) := by decide +kernel
theorem dX4_event_28 : decode cX4_event 28 = .ok (.ifCond .eq 12, 3) := by decide +kernel
theorem dX4_event_31 : decode cX4_event 31 = .ok (.aload_n 0, 1) := by decide +kernel
theorem dX4_event_32 : decode cX4_event 32 = .ok (.getfield 50, 3) := by decide +kernel
theorem dX4_event_35 : decode cX4_event 35 = .ok (.iload_n 1, 1) := by decide +kernel
theorem dX4_event_36 : decode cX4_event 36 = .ok (.iaload, 1) := by decide +kernel
theorem dX4_event_37 : decode cX4_event 37 = .ok (.goto 4, 3) := by decide +kernel
theorem dX4_event_40 : decode cX4_event 40 = .ok (.iconst (-1), 1) := by decide +kernel
theorem dX4_event_41 : decode cX4_event 41 = .ok (.ireturn, 1) := by decide +kernel
theorem dX4_failureKind_0 : decode cX4_failureKind 0 = .ok (.aload_n 0, 1) := by decide +kernel
theorem dX4_failureKind_1 : decode cX4_failureKind 1 = .ok (.iconst 0, 1) := by decide +kernel
theorem dX4_failureKind_2 : decode cX4_failureKind 2 = .ok (.putfield 72, 3) := by decide +kernel
theorem dX4_failureKind_5 : decode cX4_failureKind 5 = .ok (.aload_n 0, 1) := by decide +kernel
theorem dX4_failureKind_6 : decode cX4_failureKind 6 = .ok (.getfield 193, 3) := by decide +kernel
theorem dX4_failureKind_9 : decode cX4_failureKind 9 = .ok (.ireturn, 1) := by decide +kernel
theorem dX4_failureDetail_0 : decode cX4_failureDetail 0 = .ok (.aload_n 0, 1) := by decide +kernel
theorem dX4_failureDetail_1 : decode cX4_failureDetail 1 = .ok (.iconst 0, 1) := by decide +kernel
theorem dX4_failureDetail_2 : decode cX4_failureDetail 2 = .ok (.putfield 72, 3) := by decide +kernel
theorem dX4_failureDetail_5 : decode cX4_failureDetail 5 = .ok (.aload_n 0, 1) := by decide +kernel
theorem dX4_failureDetail_6 : decode cX4_failureDetail 6 = .ok (.getfield 68, 3) := by decide +kernel
theorem dX4_failureDetail_9 : decode cX4_failureDetail 9 = .ok (.ireturn, 1) := by decide +kernel
theorem dX4_failureChain_0 : decode cX4_failureChain 0 = .ok (.aload_n 0, 1) := by decide +kernel
theorem dX4_failureChain_1 : decode cX4_failureChain 1 = .ok (.iconst 0, 1) := by decide +kernel
theorem dX4_failureChain_2 : decode cX4_failureChain 2 = .ok (.putfield 72, 3) := by decide +kernel
theorem dX4_failureChain_5 : decode cX4_failureChain 5 = .ok (.iload_n 1, 1) := by decide +kernel
theorem dX4_failureChain_6 : decode cX4_failureChain 6 = .ok (.iconst (-1), 1) := by decide +kernel
theorem dX4_failureChain_7 : decode cX4_failureChain 7 = .ok (.if_icmp .ne 10, 3) := by decide +kernel
theorem dX4_failureChain_10 : decode cX4_failureChain 10 = .ok (.aload_n 0, 1) := by decide +kernel
theorem dX4_failureChain_11 : decode cX4_failureChain 11 = .ok (.getfield 196, 3) := by decide +kernel
theorem dX4_failureChain_14 : decode cX4_failureChain 14 = .ok (.goto 27, 3) := by decide +kernel
theorem dX4_failureChain_17 : decode cX4_failureChain 17 = .ok (.iload_n 1, 1) := by decide +kernel
theorem dX4_failureChain_18 : decode cX4_failureChain 18 = .ok (.iconst 0, 1) := by decide +kernel
theorem dX4_failureChain_19 : decode cX4_failureChain 19 = .ok (.aload_n 0, 1) := by decide +kernel
theorem dX4_failureChain_20 : decode cX4_failureChain 20 = .ok (.getfield 196, 3) := by decide +kernel
theorem dX4_failureChain_23 : decode cX4_failureChain 23 = .ok (.iconst 1, 1) := by decide +kernel
theorem dX4_failureChain_24 : decode cX4_failureChain 24 = .ok (.isub, 1) := by decide +kernel
theorem dX4_failureChain_25 : decode cX4_failureChain 25 = .ok (.invokestatic 78, 3) := by decide +kernel
theorem dX4_failureChain_28 : decode cX4_failureChain 28 = .ok (.ifCond .eq 12, 3) := by decide +kernel
theorem dX4_failureChain_31 : decode cX4_failureChain 31 = .ok (.aload_n 0, 1) := by decide +kernel
theorem dX4_failureChain_32 : decode cX4_failureChain 32 = .ok (.getfield 53, 3) := by decide +kernel
theorem dX4_failureChain_35 : decode cX4_failureChain 35 = .ok (.iload_n 1, 1) := by decide +kernel
theorem dX4_failureChain_36 : decode cX4_failureChain 36 = .ok (.iaload, 1) := by decide +kernel
theorem dX4_failureChain_37 : decode cX4_failureChain 37 = .ok (.goto 4, 3) := by decide +kernel
theorem dX4_failureChain_40 : decode cX4_failureChain 40 = .ok (.iconst (-1), 1) := by decide +kernel
theorem dX4_failureChain_41 : decode cX4_failureChain 41 = .ok (.ireturn, 1) := by decide +kernel
theorem dJ7_fill_53178_0 : decode cJ7_fill_53178 0 = .ok (.iconst 0, 1) := by decide +kernel
theorem dJ7_fill_53178_1 : decode cJ7_fill_53178 1 = .ok (.istore_n 2, 1) := by decide +kernel
theorem dJ7_fill_53178_2 : decode cJ7_fill_53178 2 = .ok (.aload_n 0, 1) := by decide +kernel
theorem dJ7_fill_53178_3 : decode cJ7_fill_53178 3 = .ok (.arraylength, 1) := by decide +kernel
theorem dJ7_fill_53178_4 : decode cJ7_fill_53178 4 = .ok (.istore_n 3, 1) := by decide +kernel
theorem dJ7_fill_53178_5 : decode cJ7_fill_53178 5 = .ok (.iload_n 2, 1) := by decide +kernel
theorem dJ7_fill_53178_6 : decode cJ7_fill_53178 6 = .ok (.iload_n 3, 1) := by decide +kernel
theorem dJ7_fill_53178_7 : decode cJ7_fill_53178 7 = .ok (.if_icmp .ge 13, 3) := by decide +kernel
theorem dJ7_fill_53178_10 : decode cJ7_fill_53178 10 = .ok (.aload_n 0, 1) := by decide +kernel
theorem dJ7_fill_53178_11 : decode cJ7_fill_53178 11 = .ok (.iload_n 2, 1) := by decide +kernel
theorem dJ7_fill_53178_12 : decode cJ7_fill_53178 12 = .ok (.iload_n 1, 1) := by decide +kernel
theorem dJ7_fill_53178_13 : decode cJ7_fill_53178 13 = .ok (.iastore, 1) := by decide +kernel
theorem dJ7_fill_53178_14 : decode cJ7_fill_53178 14 = .ok (.iinc 2 1, 3) := by decide +kernel
theorem dJ7_fill_53178_17 : decode cJ7_fill_53178 17 = .ok (.goto (-12), 3) := by decide +kernel
theorem dJ7_fill_53178_20 : decode cJ7_fill_53178 20 = .ok (.return_, 1) := by decide +kernel
theorem dL_add_0 : decode cL_add 0 = .ok (.aload_n 3, 1) := by decide +kernel
theorem dL_add_1 : decode cL_add 1 = .ok (.iconst 0, 1) := by decide +kernel
theorem dL_add_2 : decode cL_add 2 = .ok (.aload_n 0, 1) := by decide +kernel
theorem dL_add_3 : decode cL_add 3 = .ok (.iload_n 1, 1) := by decide +kernel
theorem dL_add_4 : decode cL_add 4 = .ok (.iload_n 2, 1) := by decide +kernel
theorem dL_add_5 : decode cL_add 5 = .ok (.invokevirtual 7, 3) := by decide +kernel
theorem dL_add_8 : decode cL_add 8 = .ok (.i2l, 1) := by decide +kernel
theorem dL_add_9 : decode cL_add 9 = .ok (.lastore, 1) := by decide +kernel
theorem dL_add_10 : decode cL_add 10 = .ok (.goto 11, 3) := by decide +kernel
theorem dL_add_13 : decode cL_add 13 = .ok (.astore 4, 2) := by decide +kernel
theorem dL_add_15 : decode cL_add 15 = .ok (.iconst 1, 1) := by decide +kernel
theorem dL_add_16 : decode cL_add 16 = .ok (.ireturn, 1) := by decide +kernel
theorem dL_add_17 : decode cL_add 17 = .ok (.astore 4, 2) := by decide +kernel
theorem dL_add_19 : decode cL_add 19 = .ok (.iconst 2, 1) := by decide +kernel
theorem dL_add_20 : decode cL_add 20 = .ok (.ireturn, 1) := by decide +kernel
theorem dL_add_21 : decode cL_add 21 = .ok (.iconst 0, 1) := by decide +kernel
theorem dL_add_22 : decode cL_add 22 = .ok (.ireturn, 1) := by decide +kernel
theorem dL_set_0 : decode cL_set 0 = .ok (.aload 4, 2) := by decide +kernel
theorem dL_set_2 : decode cL_set 2 = .ok (.iconst 0, 1) := by decide +kernel
theorem dL_set_3 : decode cL_set 3 = .ok (.aload_n 0, 1) := by decide +kernel
theorem dL_set_4 : decode cL_set 4 = .ok (.iload_n 1, 1) := by decide +kernel
theorem dL_set_5 : decode cL_set 5 = .ok (.iload_n 2, 1) := by decide +kernel
theorem dL_set_6 : decode cL_set 6 = .ok (.iload_n 3, 1) := by decide +kernel
theorem dL_set_7 : decode cL_set 7 = .ok (.invokevirtual 17, 3) := by decide +kernel
theorem dL_set_10 : decode cL_set 10 = .ok (.i2l, 1) := by decide +kernel
theorem dL_set_11 : decode cL_set 11 = .ok (.lastore, 1) := by decide +kernel
theorem dL_set_12 : decode cL_set 12 = .ok (.goto 11, 3) := by decide +kernel
theorem dL_set_15 : decode cL_set 15 = .ok (.astore 5, 2) := by decide +kernel
theorem dL_set_17 : decode cL_set 17 = .ok (.iconst 1, 1) := by decide +kernel
theorem dL_set_18 : decode cL_set 18 = .ok (.ireturn, 1) := by decide +kernel
theorem dL_set_19 : decode cL_set 19 = .ok (.astore 5, 2) := by decide +kernel
theorem dL_set_21 : decode cL_set 21 = .ok (.iconst 2, 1) := by decide +kernel
theorem dL_set_22 : decode cL_set 22 = .ok (.ireturn, 1) := by decide +kernel
theorem dL_set_23 : decode cL_set 23 = .ok (.iconst 0, 1) := by decide +kernel
theorem dL_set_24 : decode cL_set 24 = .ok (.ireturn, 1) := by decide +kernel
theorem dL_property_0 : decode cL_property 0 = .ok (.aload_n 3, 1) := by decide +kernel
theorem dL_property_1 : decode cL_property 1 = .ok (.iconst 0, 1) := by decide +kernel
theorem dL_property_2 : decode cL_property 2 = .ok (.aload_n 0, 1) := by decide +kernel
theorem dL_property_3 : decode cL_property 3 = .ok (.iload_n 1, 1) := by decide +kernel
theorem dL_property_4 : decode cL_property 4 = .ok (.iload_n 2, 1) := by decide +kernel
theorem dL_property_5 : decode cL_property 5 = .ok (.invokevirtual 23, 3) := by decide +kernel
theorem dL_property_8 : decode cL_property 8 = .ok (.i2l, 1) := by decide +kernel
theorem dL_property_9 : decode cL_property 9 = .ok (.lastore, 1) := by decide +kernel
theorem dL_property_10 : decode cL_property 10 = .ok (.goto 11, 3) := by decide +kernel
theorem dL_property_13 : decode cL_property 13 = .ok (.astore 4, 2) := by decide +kernel
theorem dL_property_15 : decode cL_property 15 = .ok (.iconst 1, 1) := by decide +kernel
theorem dL_property_16 : decode cL_property 16 = .ok (.ireturn, 1) := by decide +kernel
theorem dL_property_17 : decode cL_property 17 = .ok (.astore 4, 2) := by decide +kernel
theorem dL_property_19 : decode cL_property 19 = .ok (.iconst 2, 1) := by decide +kernel
theorem dL_property_20 : decode cL_property 20 = .ok (.ireturn, 1) := by decide +kernel
theorem dL_property_21 : decode cL_property 21 = .ok (.iconst 0, 1) := by decide +kernel
theorem dL_property_22 : decode cL_property 22 = .ok (.ireturn, 1) := by decide +kernel
theorem dL_depend_0 : decode cL_depend 0 = .ok (.aload 5, 2) := by decide +kernel
theorem dL_depend_2 : decode cL_depend 2 = .ok (.iconst 0, 1) := by decide +kernel
theorem dL_depend_3 : decode cL_depend 3 = .ok (.aload_n 0, 1) := by decide +kernel
theorem dL_depend_4 : decode cL_depend 4 = .ok (.iload_n 1, 1) := by decide +kernel
theorem dL_depend_5 : decode cL_depend 5 = .ok (.iload_n 2, 1) := by decide +kernel
theorem dL_depend_6 : decode cL_depend 6 = .ok (.iload_n 3, 1) := by decide +kernel
theorem dL_depend_7 : decode cL_depend 7 = .ok (.iload 4, 2) := by decide +kernel
theorem dL_depend_9 : decode cL_depend 9 = .ok (.invokevirtual 26, 3) := by decide +kernel
theorem dL_depend_12 : decode cL_depend 12 = .ok (.i2l, 1) := by decide +kernel
theorem dL_depend_13 : decode cL_depend 13 = .ok (.lastore, 1) := by decide +kernel
theorem dL_depend_14 : decode cL_depend 14 = .ok (.goto 15, 3) := by decide +kernel
theorem dL_depend_17 : decode cL_depend 17 = .ok (.astore 6, 2) := by decide +kernel
theorem dL_depend_19 : decode cL_depend 19 = .ok (.iconst 1, 1) := by decide +kernel
theorem dL_depend_20 : decode cL_depend 20 = .ok (.ireturn, 1) := by decide +kernel
theorem dL_depend_21 : decode cL_depend 21 = .ok (.astore 6, 2) := by decide +kernel
theorem dL_depend_23 : decode cL_depend 23 = .ok (.iconst 2, 1) := by decide +kernel
theorem dL_depend_24 : decode cL_depend 24 = .ok (.ireturn, 1) := by decide +kernel
theorem dL_depend_25 : decode cL_depend 25 = .ok (.astore 6, 2) := by decide +kernel
theorem dL_depend_27 : decode cL_depend 27 = .ok (.iconst 3, 1) := by decide +kernel
theorem dL_depend_28 : decode cL_depend 28 = .ok (.ireturn, 1) := by decide +kernel
theorem dL_depend_29 : decode cL_depend 29 = .ok (.iconst 0, 1) := by decide +kernel
theorem dL_depend_30 : decode cL_depend 30 = .ok (.ireturn, 1) := by decide +kernel
theorem dL_clear_0 : decode cL_clear 0 = .ok (.aload_n 2, 1) := by decide +kernel
theorem dL_clear_1 : decode cL_clear 1 = .ok (.iconst 0, 1) := by decide +kernel
theorem dL_clear_2 : decode cL_clear 2 = .ok (.aload_n 0, 1) := by decide +kernel
theorem dL_clear_3 : decode cL_clear 3 = .ok (.iload_n 1, 1) := by decide +kernel
theorem dL_clear_4 : decode cL_clear 4 = .ok (.invokevirtual 30, 3) := by decide +kernel
theorem dL_clear_7 : decode cL_clear 7 = .ok (.i2l, 1) := by decide +kernel
theorem dL_clear_8 : decode cL_clear 8 = .ok (.lastore, 1) := by decide +kernel
theorem dL_clear_9 : decode cL_clear 9 = .ok (.goto 6, 3) := by decide +kernel
theorem dL_clear_12 : decode cL_clear 12 = .ok (.astore_n 3, 1) := by decide +kernel
theorem dL_clear_13 : decode cL_clear 13 = .ok (.iconst 1, 1) := by decide +kernel
theorem dL_clear_14 : decode cL_clear 14 = .ok (.ireturn, 1) := by decide +kernel
theorem dL_clear_15 : decode cL_clear 15 = .ok (.iconst 0, 1) := by decide +kernel
theorem dL_clear_16 : decode cL_clear 16 = .ok (.ireturn, 1) := by decide +kernel
theorem dL_dependency_0 : decode cL_dependency 0 = .ok (.aload 4, 2) := by decide +kernel
theorem dL_dependency_2 : decode cL_dependency 2 = .ok (.iconst 0, 1) := by decide +kernel
theorem dL_dependency_3 : decode cL_dependency 3 = .ok (.aload_n 0, 1) := by decide +kernel
theorem dL_dependency_4 : decode cL_dependency 4 = .ok (.iload_n 1, 1) := by decide +kernel
theorem dL_dependency_5 : decode cL_dependency 5 = .ok (.iload_n 2, 1) := by decide +kernel
theorem dL_dependency_6 : decode cL_dependency 6 = .ok (.iload_n 3, 1) := by decide +kernel
theorem dL_dependency_7 : decode cL_dependency 7 = .ok (.invokevirtual 34, 3) := by decide +kernel
theorem dL_dependency_10 : decode cL_dependency 10 = .ok (.i2l, 1) := by decide +kernel
theorem dL_dependency_11 : decode cL_dependency 11 = .ok (.lastore, 1) := by decide +kernel
theorem dL_dependency_12 : decode cL_dependency 12 = .ok (.goto 11, 3) := by decide +kernel
theorem dL_dependency_15 : decode cL_dependency 15 = .ok (.astore 5, 2) := by decide +kernel
theorem dL_dependency_17 : decode cL_dependency 17 = .ok (.iconst 1, 1) := by decide +kernel
theorem dL_dependency_18 : decode cL_dependency 18 = .ok (.ireturn, 1) := by decide +kernel
theorem dL_dependency_19 : decode cL_dependency 19 = .ok (.astore 5, 2) := by decide +kernel
theorem dL_dependency_21 : decode cL_dependency 21 = .ok (.iconst 2, 1) := by decide +kernel
theorem dL_dependency_22 : decode cL_dependency 22 = .ok (.ireturn, 1) := by decide +kernel
theorem dL_dependency_23 : decode cL_dependency 23 = .ok (.iconst 0, 1) := by decide +kernel
theorem dL_dependency_24 : decode cL_dependency 24 = .ok (.ireturn, 1) := by decide +kernel
theorem dL_profile_0 : decode cL_profile 0 = .ok (.aload_n 3, 1) := by decide +kernel
theorem dL_profile_1 : decode cL_profile 1 = .ok (.iconst 0, 1) := by decide +kernel
theorem dL_profile_2 : decode cL_profile 2 = .ok (.aload_n 0, 1) := by decide +kernel
theorem dL_profile_3 : decode cL_profile 3 = .ok (.iload_n 1, 1) := by decide +kernel
theorem dL_profile_4 : decode cL_profile 4 = .ok (.iload_n 2, 1) := by decide +kernel
theorem dL_profile_5 : decode cL_profile 5 = .ok (.invokevirtual 37, 3) := by decide +kernel
theorem dL_profile_8 : decode cL_profile 8 = .ok (.ifCond .eq 7, 3) := by decide +kernel
theorem dL_profile_11 : decode cL_profile 11 = .ok (.lconst 1, 1) := by decide +kernel
theorem dL_profile_12 : decode cL_profile 12 = .ok (.goto 4, 3) := by decide +kernel
theorem dL_profile_15 : decode cL_profile 15 = .ok (.lconst 0, 1) := by decide +kernel
theorem dL_profile_16 : decode cL_profile 16 = .ok (.lastore, 1) := by decide +kernel
theorem dL_profile_17 : decode cL_profile 17 = .ok (.goto 7, 3) := by decide +kernel
theorem dL_profile_20 : decode cL_profile 20 = .ok (.astore 4, 2) := by decide +kernel
theorem dL_profile_22 : decode cL_profile 22 = .ok (.iconst 1, 1) := by decide +kernel
theorem dL_profile_23 : decode cL_profile 23 = .ok (.ireturn, 1) := by decide +kernel
theorem dL_profile_24 : decode cL_profile 24 = .ok (.iconst 0, 1) := by decide +kernel
theorem dL_profile_25 : decode cL_profile 25 = .ok (.ireturn, 1) := by decide +kernel
theorem dL_candidates_0 : decode cL_candidates 0 = .ok (.aload_n 3, 1) := by decide +kernel
theorem dL_candidates_1 : decode cL_candidates 1 = .ok (.iconst 0, 1) := by decide +kernel
theorem dL_candidates_2 : decode cL_candidates 2 = .ok (.aload_n 0, 1) := by decide +kernel
theorem dL_candidates_3 : decode cL_candidates 3 = .ok (.iload_n 1, 1) := by decide +kernel
theorem dL_candidates_4 : decode cL_candidates 4 = .ok (.iload_n 2, 1) := by decide +kernel
theorem dL_candidates_5 : decode cL_candidates 5 = .ok (.invokevirtual 41, 3) := by decide +kernel
theorem dL_candidates_8 : decode cL_candidates 8 = .ok (.i2l, 1) := by decide +kernel
theorem dL_candidates_9 : decode cL_candidates 9 = .ok (.lastore, 1) := by decide +kernel
theorem dL_candidates_10 : decode cL_candidates 10 = .ok (.goto 7, 3) := by decide +kernel
theorem dL_candidates_13 : decode cL_candidates 13 = .ok (.astore 4, 2) := by decide +kernel
theorem dL_candidates_15 : decode cL_candidates 15 = .ok (.iconst 1, 1) := by decide +kernel
theorem dL_candidates_16 : decode cL_candidates 16 = .ok (.ireturn, 1) := by decide +kernel
theorem dL_candidates_17 : decode cL_candidates 17 = .ok (.iconst 0, 1) := by decide +kernel
theorem dL_candidates_18 : decode cL_candidates 18 = .ok (.ireturn, 1) := by decide +kernel
theorem dL_chosen_0 : decode cL_chosen 0 = .ok (.aload_n 3, 1) := by decide +kernel
theorem dL_chosen_1 : decode cL_chosen 1 = .ok (.iconst 0, 1) := by decide +kernel
theorem dL_chosen_2 : decode cL_chosen 2 = .ok (.aload_n 0, 1) := by decide +kernel
theorem dL_chosen_3 : decode cL_chosen 3 = .ok (.iload_n 1, 1) := by decide +kernel
theorem dL_chosen_4 : decode cL_chosen 4 = .ok (.iload_n 2, 1) := by decide +kernel
theorem dL_chosen_5 : decode cL_chosen 5 = .ok (.invokevirtual 44, 3) := by decide +kernel
theorem dL_chosen_8 : decode cL_chosen 8 = .ok (.i2l, 1) := by decide +kernel
theorem dL_chosen_9 : decode cL_chosen 9 = .ok (.lastore, 1) := by decide +kernel
theorem dL_chosen_10 : decode cL_chosen 10 = .ok (.goto 7, 3) := by decide +kernel
theorem dL_chosen_13 : decode cL_chosen 13 = .ok (.astore 4, 2) := by decide +kernel
theorem dL_chosen_15 : decode cL_chosen 15 = .ok (.iconst 1, 1) := by decide +kernel
theorem dL_chosen_16 : decode cL_chosen 16 = .ok (.ireturn, 1) := by decide +kernel
theorem dL_chosen_17 : decode cL_chosen 17 = .ok (.iconst 0, 1) := by decide +kernel
theorem dL_chosen_18 : decode cL_chosen 18 = .ok (.ireturn, 1) := by decide +kernel
theorem dL_problem_0 : decode cL_problem 0 = .ok (.aload_n 2, 1) := by decide +kernel
theorem dL_problem_1 : decode cL_problem 1 = .ok (.iconst 0, 1) := by decide +kernel
theorem dL_problem_2 : decode cL_problem 2 = .ok (.aload_n 0, 1) := by decide +kernel
theorem dL_problem_3 : decode cL_problem 3 = .ok (.iload_n 1, 1) := by decide +kernel
theorem dL_problem_4 : decode cL_problem 4 = .ok (.invokevirtual 47, 3) := by decide +kernel
theorem dL_problem_7 : decode cL_problem 7 = .ok (.i2l, 1) := by decide +kernel
theorem dL_problem_8 : decode cL_problem 8 = .ok (.lastore, 1) := by decide +kernel
theorem dL_problem_9 : decode cL_problem 9 = .ok (.goto 6, 3) := by decide +kernel
theorem dL_problem_12 : decode cL_problem 12 = .ok (.astore_n 3, 1) := by decide +kernel
theorem dL_problem_13 : decode cL_problem 13 = .ok (.iconst 1, 1) := by decide +kernel
theorem dL_problem_14 : decode cL_problem 14 = .ok (.ireturn, 1) := by decide +kernel
theorem dL_problem_15 : decode cL_problem 15 = .ok (.iconst 0, 1) := by decide +kernel
theorem dL_problem_16 : decode cL_problem 16 = .ok (.ireturn, 1) := by decide +kernel
theorem dL_needs_0 : decode cL_needs 0 = .ok (.aload_n 2, 1) := by decide +kernel
theorem dL_needs_1 : decode cL_needs 1 = .ok (.iconst 0, 1) := by decide +kernel
theorem dL_needs_2 : decode cL_needs 2 = .ok (.aload_n 0, 1) := by decide +kernel
theorem dL_needs_3 : decode cL_needs 3 = .ok (.iload_n 1, 1) := by decide +kernel
theorem dL_needs_4 : decode cL_needs 4 = .ok (.invokevirtual 50, 3) := by decide +kernel
theorem dL_needs_7 : decode cL_needs 7 = .ok (.i2l, 1) := by decide +kernel
theorem dL_needs_8 : decode cL_needs 8 = .ok (.lastore, 1) := by decide +kernel
theorem dL_needs_9 : decode cL_needs 9 = .ok (.goto 6, 3) := by decide +kernel
theorem dL_needs_12 : decode cL_needs 12 = .ok (.astore_n 3, 1) := by decide +kernel
theorem dL_needs_13 : decode cL_needs 13 = .ok (.iconst 1, 1) := by decide +kernel
theorem dL_needs_14 : decode cL_needs 14 = .ok (.ireturn, 1) := by decide +kernel
theorem dL_needs_15 : decode cL_needs 15 = .ok (.iconst 0, 1) := by decide +kernel
theorem dL_needs_16 : decode cL_needs 16 = .ok (.ireturn, 1) := by decide +kernel
theorem dL_resolve_0 : decode cL_resolve 0 = .ok (.aload_n 3, 1) := by decide +kernel
theorem dL_resolve_1 : decode cL_resolve 1 = .ok (.iconst 0, 1) := by decide +kernel
theorem dL_resolve_2 : decode cL_resolve 2 = .ok (.aload_n 0, 1) := by decide +kernel
theorem dL_resolve_3 : decode cL_resolve 3 = .ok (.iload_n 1, 1) := by decide +kernel
theorem dL_resolve_4 : decode cL_resolve 4 = .ok (.iload_n 2, 1) := by decide +kernel
theorem dL_resolve_5 : decode cL_resolve 5 = .ok (.invokevirtual 53, 3) := by decide +kernel
theorem dL_resolve_8 : decode cL_resolve 8 = .ok (.i2l, 1) := by decide +kernel
theorem dL_resolve_9 : decode cL_resolve 9 = .ok (.lastore, 1) := by decide +kernel
theorem dL_resolve_10 : decode cL_resolve 10 = .ok (.goto 11, 3) := by decide +kernel
theorem dL_resolve_13 : decode cL_resolve 13 = .ok (.astore 4, 2) := by decide +kernel
theorem dL_resolve_15 : decode cL_resolve 15 = .ok (.iconst 1, 1) := by decide +kernel
theorem dL_resolve_16 : decode cL_resolve 16 = .ok (.ireturn, 1) := by decide +kernel
theorem dL_resolve_17 : decode cL_resolve 17 = .ok (.astore 4, 2) := by decide +kernel
theorem dL_resolve_19 : decode cL_resolve 19 = .ok (.iconst 2, 1) := by decide +kernel
theorem dL_resolve_20 : decode cL_resolve 20 = .ok (.ireturn, 1) := by decide +kernel
theorem dL_resolve_21 : decode cL_resolve 21 = .ok (.iconst 0, 1) := by decide +kernel
theorem dL_resolve_22 : decode cL_resolve 22 = .ok (.ireturn, 1) := by decide +kernel
theorem dL_provide_0 : decode cL_provide 0 = .ok (.aload_n 3, 1) := by decide +kernel
theorem dL_provide_1 : decode cL_provide 1 = .ok (.iconst 0, 1) := by decide +kernel
theorem dL_provide_2 : decode cL_provide 2 = .ok (.aload_n 0, 1) := by decide +kernel
theorem dL_provide_3 : decode cL_provide 3 = .ok (.iload_n 1, 1) := by decide +kernel
theorem dL_provide_4 : decode cL_provide 4 = .ok (.iload_n 2, 1) := by decide +kernel
theorem dL_provide_5 : decode cL_provide 5 = .ok (.invokevirtual 56, 3) := by decide +kernel
theorem dL_provide_8 : decode cL_provide 8 = .ok (.i2l, 1) := by decide +kernel
theorem dL_provide_9 : decode cL_provide 9 = .ok (.lastore, 1) := by decide +kernel
theorem dL_provide_10 : decode cL_provide 10 = .ok (.goto 15, 3) := by decide +kernel
theorem dL_provide_13 : decode cL_provide 13 = .ok (.astore 4, 2) := by decide +kernel
theorem dL_provide_15 : decode cL_provide 15 = .ok (.iconst 1, 1) := by decide +kernel
theorem dL_provide_16 : decode cL_provide 16 = .ok (.ireturn, 1) := by decide +kernel
theorem dL_provide_17 : decode cL_provide 17 = .ok (.astore 4, 2) := by decide +kernel
theorem dL_provide_19 : decode cL_provide 19 = .ok (.iconst 2, 1) := by decide +kernel
theorem dL_provide_20 : decode cL_provide 20 = .ok (.ireturn, 1) := by decide +kernel
theorem dL_provide_21 : decode cL_provide 21 = .ok (.astore 4, 2) := by decide +kernel
theorem dL_provide_23 : decode cL_provide 23 = .ok (.iconst 3, 1) := by decide +kernel
theorem dL_provide_24 : decode cL_provide 24 = .ok (.ireturn, 1) := by decide +kernel
theorem dL_provide_25 : decode cL_provide 25 = .ok (.iconst 0, 1) := by decide +kernel
theorem dL_provide_26 : decode cL_provide 26 = .ok (.ireturn, 1) := by decide +kernel
theorem dL_start_0 : decode cL_start 0 = .ok (.aload_n 1, 1) := by decide +kernel
theorem dL_start_1 : decode cL_start 1 = .ok (.iconst 0, 1) := by decide +kernel
theorem dL_start_2 : decode cL_start 2 = .ok (.aload_n 0, 1) := by decide +kernel
theorem dL_start_3 : decode cL_start 3 = .ok (.invokevirtual 59, 3) := by decide +kernel
theorem dL_start_6 : decode cL_start 6 = .ok (.i2l, 1) := by decide +kernel
theorem dL_start_7 : decode cL_start 7 = .ok (.lastore, 1) := by decide +kernel
theorem dL_start_8 : decode cL_start 8 = .ok (.goto 6, 3) := by decide +kernel
theorem dL_start_11 : decode cL_start 11 = .ok (.astore_n 2, 1) := by decide +kernel
theorem dL_start_12 : decode cL_start 12 = .ok (.iconst 1, 1) := by decide +kernel
theorem dL_start_13 : decode cL_start 13 = .ok (.ireturn, 1) := by decide +kernel
theorem dL_start_14 : decode cL_start 14 = .ok (.iconst 0, 1) := by decide +kernel
theorem dL_start_15 : decode cL_start 15 = .ok (.ireturn, 1) := by decide +kernel
theorem dL_begin_0 : decode cL_begin 0 = .ok (.aload_n 1, 1) := by decide +kernel
theorem dL_begin_1 : decode cL_begin 1 = .ok (.iconst 0, 1) := by decide +kernel
theorem dL_begin_2 : decode cL_begin 2 = .ok (.aload_n 0, 1) := by decide +kernel
theorem dL_begin_3 : decode cL_begin 3 = .ok (.invokevirtual 63, 3) := by decide +kernel
theorem dL_begin_6 : decode cL_begin 6 = .ok (.i2l, 1) := by decide +kernel
theorem dL_begin_7 : decode cL_begin 7 = .ok (.lastore, 1) := by decide +kernel
theorem dL_begin_8 : decode cL_begin 8 = .ok (.goto 6, 3) := by decide +kernel
theorem dL_begin_11 : decode cL_begin 11 = .ok (.astore_n 2, 1) := by decide +kernel
theorem dL_begin_12 : decode cL_begin 12 = .ok (.iconst 1, 1) := by decide +kernel
theorem dL_begin_13 : decode cL_begin 13 = .ok (.ireturn, 1) := by decide +kernel
theorem dL_begin_14 : decode cL_begin 14 = .ok (.iconst 0, 1) := by decide +kernel
theorem dL_begin_15 : decode cL_begin 15 = .ok (.ireturn, 1) := by decide +kernel
theorem dL_end_0 : decode cL_end 0 = .ok (.aload_n 1, 1) := by decide +kernel
theorem dL_end_1 : decode cL_end 1 = .ok (.iconst 0, 1) := by decide +kernel
theorem dL_end_2 : decode cL_end 2 = .ok (.aload_n 0, 1) := by decide +kernel
theorem dL_end_3 : decode cL_end 3 = .ok (.invokevirtual 66, 3) := by decide +kernel
theorem dL_end_6 : decode cL_end 6 = .ok (.i2l, 1) := by decide +kernel
theorem dL_end_7 : decode cL_end 7 = .ok (.lastore, 1) := by decide +kernel
theorem dL_end_8 : decode cL_end 8 = .ok (.goto 6, 3) := by decide +kernel
theorem dL_end_11 : decode cL_end 11 = .ok (.astore_n 2, 1) := by decide +kernel
theorem dL_end_12 : decode cL_end 12 = .ok (.iconst 1, 1) := by decide +kernel
theorem dL_end_13 : decode cL_end 13 = .ok (.ireturn, 1) := by decide +kernel
theorem dL_end_14 : decode cL_end 14 = .ok (.iconst 0, 1) := by decide +kernel
theorem dL_end_15 : decode cL_end 15 = .ok (.ireturn, 1) := by decide +kernel
theorem dL_componentOf_0 : decode cL_componentOf 0 = .ok (.aload_n 2, 1) := by decide +kernel
theorem dL_componentOf_1 : decode cL_componentOf 1 = .ok (.iconst 0, 1) := by decide +kernel
theorem dL_componentOf_2 : decode cL_componentOf 2 = .ok (.aload_n 0, 1) := by decide +kernel
theorem dL_componentOf_3 : decode cL_componentOf 3 = .ok (.iload_n 1, 1) := by decide +kernel
theorem dL_componentOf_4 : decode cL_componentOf 4 = .ok (.invokevirtual 69, 3) := by decide +kernel
theorem dL_componentOf_7 : decode cL_componentOf 7 = .ok (.i2l, 1) := by decide +kernel
theorem dL_componentOf_8 : decode cL_componentOf 8 = .ok (.lastore, 1) := by decide +kernel
theorem dL_componentOf_9 : decode cL_componentOf 9 = .ok (.goto 6, 3) := by decide +kernel
theorem dL_componentOf_12 : decode cL_componentOf 12 = .ok (.astore_n 3, 1) := by decide +kernel
theorem dL_componentOf_13 : decode cL_componentOf 13 = .ok (.iconst 1, 1) := by decide +kernel
theorem dL_componentOf_14 : decode cL_componentOf 14 = .ok (.ireturn, 1) := by decide +kernel
theorem dL_componentOf_15 : decode cL_componentOf 15 = .ok (.iconst 0, 1) := by decide +kernel
theorem dL_componentOf_16 : decode cL_componentOf 16 = .ok (.ireturn, 1) := by decide +kernel
theorem dL_isAlive_0 : decode cL_isAlive 0 = .ok (.aload_n 2, 1) := by decide +kernel
theorem dL_isAlive_1 : decode cL_isAlive 1 = .ok (.iconst 0, 1) := by decide +kernel
theorem dL_isAlive_2 : decode cL_isAlive 2 = .ok (.aload_n 0, 1) := by decide +kernel
theorem dL_isAlive_3 : decode cL_isAlive 3 = .ok (.iload_n 1, 1) := by decide +kernel
theorem dL_isAlive_4 : decode cL_isAlive 4 = .ok (.invokevirtual 72, 3) := by decide +kernel
theorem dL_isAlive_7 : decode cL_isAlive 7 = .ok (.ifCond .eq 7, 3) := by decide +kernel
theorem dL_isAlive_10 : decode cL_isAlive 10 = .ok (.lconst 1, 1) := by decide +kernel
theorem dL_isAlive_11 : decode cL_isAlive 11 = .ok (.goto 4, 3) := by decide +kernel
theorem dL_isAlive_14 : decode cL_isAlive 14 = .ok (.lconst 0, 1) := by decide +kernel
theorem dL_isAlive_15 : decode cL_isAlive 15 = .ok (.lastore, 1) := by decide +kernel
theorem dL_isAlive_16 : decode cL_isAlive 16 = .ok (.goto 6, 3) := by decide +kernel
theorem dL_isAlive_19 : decode cL_isAlive 19 = .ok (.astore_n 3, 1) := by decide +kernel
theorem dL_isAlive_20 : decode cL_isAlive 20 = .ok (.iconst 1, 1) := by decide +kernel
theorem dL_isAlive_21 : decode cL_isAlive 21 = .ok (.ireturn, 1) := by decide +kernel
theorem dL_isAlive_22 : decode cL_isAlive 22 = .ok (.iconst 0, 1) := by decide +kernel
theorem dL_isAlive_23 : decode cL_isAlive 23 = .ok (.ireturn, 1) := by decide +kernel
theorem dL_injected_0 : decode cL_injected 0 = .ok (.aload_n 3, 1) := by decide +kernel
theorem dL_injected_1 : decode cL_injected 1 = .ok (.iconst 0, 1) := by decide +kernel
theorem dL_injected_2 : decode cL_injected 2 = .ok (.aload_n 0, 1) := by decide +kernel
theorem dL_injected_3 : decode cL_injected 3 = .ok (.iload_n 1, 1) := by decide +kernel
theorem dL_injected_4 : decode cL_injected 4 = .ok (.iload_n 2, 1) := by decide +kernel
theorem dL_injected_5 : decode cL_injected 5 = .ok (.invokevirtual 76, 3) := by decide +kernel
theorem dL_injected_8 : decode cL_injected 8 = .ok (.i2l, 1) := by decide +kernel
theorem dL_injected_9 : decode cL_injected 9 = .ok (.lastore, 1) := by decide +kernel
theorem dL_injected_10 : decode cL_injected 10 = .ok (.goto 11, 3) := by decide +kernel
theorem dL_injected_13 : decode cL_injected 13 = .ok (.astore 4, 2) := by decide +kernel
theorem dL_injected_15 : decode cL_injected 15 = .ok (.iconst 1, 1) := by decide +kernel
theorem dL_injected_16 : decode cL_injected 16 = .ok (.ireturn, 1) := by decide +kernel
theorem dL_injected_17 : decode cL_injected 17 = .ok (.astore 4, 2) := by decide +kernel
theorem dL_injected_19 : decode cL_injected 19 = .ok (.iconst 2, 1) := by decide +kernel
theorem dL_injected_20 : decode cL_injected 20 = .ok (.ireturn, 1) := by decide +kernel
theorem dL_injected_21 : decode cL_injected 21 = .ok (.iconst 0, 1) := by decide +kernel
theorem dL_injected_22 : decode cL_injected 22 = .ok (.ireturn, 1) := by decide +kernel
theorem dL_law_0 : decode cL_law 0 = .ok (.new 8, 3) := by decide +kernel
theorem dL_law_3 : decode cL_law 3 = .ok (.dup, 1) := by decide +kernel
theorem dL_law_4 : decode cL_law 4 = .ok (.invokespecial 79, 3) := by decide +kernel
theorem dL_law_7 : decode cL_law 7 = .ok (.astore_n 1, 1) := by decide +kernel
theorem dL_law_8 : decode cL_law 8 = .ok (.new 80, 3) := by decide +kernel
theorem dL_law_11 : decode cL_law 11 = .ok (.dup, 1) := by decide +kernel
theorem dL_law_12 : decode cL_law 12 = .ok (.invokespecial 82, 3) := by decide +kernel
theorem dL_law_15 : decode cL_law 15 = .ok (.astore_n 2, 1) := by decide +kernel
theorem dL_law_16 : decode cL_law 16 = .ok (.iconst 1, 1) := by decide +kernel
theorem dL_law_17 : decode cL_law 17 = .ok (.newarray .long, 2) := by decide +kernel
theorem dL_law_19 : decode cL_law 19 = .ok (.astore_n 3, 1) := by decide +kernel
theorem dL_law_20 : decode cL_law 20 = .ok (.iconst 0, 1) := by decide +kernel
theorem dL_law_21 : decode cL_law 21 = .ok (.istore 4, 2) := by decide +kernel
theorem dL_law_23 : decode cL_law 23 = .ok (.iload 4, 2) := by decide +kernel
theorem dL_law_25 : decode cL_law 25 = .ok (.aload_n 0, 1) := by decide +kernel
theorem dL_law_26 : decode cL_law 26 = .ok (.arraylength, 1) := by decide +kernel
theorem dL_law_27 : decode cL_law 27 = .ok (.iconst 5, 1) := by decide +kernel
theorem dL_law_28 : decode cL_law 28 = .ok (.isub, 1) := by decide +kernel
theorem dL_law_29 : decode cL_law 29 = .ok (.if_icmp .gt 1486, 3) := by decide +kernel
theorem dL_law_32 : decode cL_law 32 = .ok (.aload_n 0, 1) := by decide +kernel
theorem dL_law_33 : decode cL_law 33 = .ok (.iload 4, 2) := by decide +kernel
theorem dL_law_35 : decode cL_law 35 = .ok (.iaload, 1) := by decide +kernel
theorem dL_law_36 : decode cL_law 36 = .ok (.bipush 31, 2) := by decide +kernel
theorem dL_law_38 : decode cL_law 38 = .ok (.iand, 1) := by decide +kernel
theorem dL_law_39 : decode cL_law 39 = .ok (.tableswitch 1470 0 25 #[117, 185, 265, 333, 425, 481, 561, 652, 665, 733, 801, 857, 913, 981, 1049, 1093, 1137, 1181, 1194, 1207, 1263, 1326, 1394, 1419, 1432, 1445], 117) := by decide +kernel
theorem dL_law_156 : decode cL_law 156 = .ok (.aload_n 1, 1) := by decide +kernel
theorem dL_law_157 : decode cL_law 157 = .ok (.aload_n 0, 1) := by decide +kernel
theorem dL_law_158 : decode cL_law 158 = .ok (.iload 4, 2) := by decide +kernel
theorem dL_law_160 : decode cL_law 160 = .ok (.iconst 1, 1) := by decide +kernel
theorem dL_law_161 : decode cL_law 161 = .ok (.iadd, 1) := by decide +kernel
theorem dL_law_162 : decode cL_law 162 = .ok (.iaload, 1) := by decide +kernel
theorem dL_law_163 : decode cL_law 163 = .ok (.aload_n 0, 1) := by decide +kernel
theorem dL_law_164 : decode cL_law 164 = .ok (.iload 4, 2) := by decide +kernel
theorem dL_law_166 : decode cL_law 166 = .ok (.iconst 2, 1) := by decide +kernel
theorem dL_law_167 : decode cL_law 167 = .ok (.iadd, 1) := by decide +kernel
theorem dL_law_168 : decode cL_law 168 = .ok (.iaload, 1) := by decide +kernel
theorem dL_law_169 : decode cL_law 169 = .ok (.aload_n 3, 1) := by decide +kernel
theorem dL_law_170 : decode cL_law 170 = .ok (.invokestatic 83, 3) := by decide +kernel
theorem dL_law_173 : decode cL_law 173 = .ok (.istore 5, 2) := by decide +kernel
theorem dL_law_175 : decode cL_law 175 = .ok (.aload_n 2, 1) := by decide +kernel
theorem dL_law_176 : decode cL_law 176 = .ok (.aload_n 0, 1) := by decide +kernel
theorem dL_law_177 : decode cL_law 177 = .ok (.iload 4, 2) := by decide +kernel
theorem dL_law_179 : decode cL_law 179 = .ok (.iconst 1, 1) := by decide +kernel
theorem dL_law_180 : decode cL_law 180 = .ok (.iadd, 1) := by decide +kernel
theorem dL_law_181 : decode cL_law 181 = .ok (.iaload, 1) := by decide +kernel
theorem dL_law_182 : decode cL_law 182 = .ok (.aload_n 0, 1) := by decide +kernel
theorem dL_law_183 : decode cL_law 183 = .ok (.iload 4, 2) := by decide +kernel
theorem dL_law_185 : decode cL_law 185 = .ok (.iconst 2, 1) := by decide +kernel
theorem dL_law_186 : decode cL_law 186 = .ok (.iadd, 1) := by decide +kernel
theorem dL_law_187 : decode cL_law 187 = .ok (.iaload, 1) := by decide +kernel
theorem dL_law_188 : decode cL_law 188 = .ok (.invokevirtual 88, 3) := by decide +kernel
theorem dL_law_191 : decode cL_law 191 = .ok (.istore 6, 2) := by decide +kernel
theorem dL_law_193 : decode cL_law 193 = .ok (.aload_n 2, 1) := by decide +kernel
theorem dL_law_194 : decode cL_law 194 = .ok (.invokevirtual 89, 3) := by decide +kernel
theorem dL_law_197 : decode cL_law 197 = .ok (.iload 5, 2) := by decide +kernel
theorem dL_law_199 : decode cL_law 199 = .ok (.if_icmp .eq 5, 3) := by decide +kernel
theorem dL_law_202 : decode cL_law 202 = .ok (.iconst 0, 1) := by decide +kernel
theorem dL_law_203 : decode cL_law 203 = .ok (.ireturn, 1) := by decide +kernel
theorem dL_law_204 : decode cL_law 204 = .ok (.iload 5, 2) := by decide +kernel
theorem dL_law_206 : decode cL_law 206 = .ok (.ifCond .ne 15, 3) := by decide +kernel
theorem dL_law_209 : decode cL_law 209 = .ok (.aload_n 3, 1) := by decide +kernel
theorem dL_law_210 : decode cL_law 210 = .ok (.iconst 0, 1) := by decide +kernel
theorem dL_law_211 : decode cL_law 211 = .ok (.laload, 1) := by decide +kernel
theorem dL_law_212 : decode cL_law 212 = .ok (.iload 6, 2) := by decide +kernel
theorem dL_law_214 : decode cL_law 214 = .ok (.i2l, 1) := by decide +kernel
theorem dL_law_215 : decode cL_law 215 = .ok (.lcmp, 1) := by decide +kernel
theorem dL_law_216 : decode cL_law 216 = .ok (.ifCond .eq 5, 3) := by decide +kernel
theorem dL_law_219 : decode cL_law 219 = .ok (.iconst 0, 1) := by decide +kernel
theorem dL_law_220 : decode cL_law 220 = .ok (.ireturn, 1) := by decide +kernel
theorem dL_law_221 : decode cL_law 221 = .ok (.goto 1288, 3) := by decide +kernel
theorem dL_law_224 : decode cL_law 224 = .ok (.aload_n 1, 1) := by decide +kernel
theorem dL_law_225 : decode cL_law 225 = .ok (.aload_n 0, 1) := by decide +kernel
theorem dL_law_226 : decode cL_law 226 = .ok (.iload 4, 2) := by decide +kernel
theorem dL_law_228 : decode cL_law 228 = .ok (.iconst 1, 1) := by decide +kernel
theorem dL_law_229 : decode cL_law 229 = .ok (.iadd, 1) := by decide +kernel
theorem dL_law_230 : decode cL_law 230 = .ok (.iaload, 1) := by decide +kernel
theorem dL_law_231 : decode cL_law 231 = .ok (.aload_n 0, 1) := by decide +kernel
theorem dL_law_232 : decode cL_law 232 = .ok (.iload 4, 2) := by decide +kernel
theorem dL_law_234 : decode cL_law 234 = .ok (.iconst 2, 1) := by decide +kernel
theorem dL_law_235 : decode cL_law 235 = .ok (.iadd, 1) := by decide +kernel
theorem dL_law_236 : decode cL_law 236 = .ok (.iaload, 1) := by decide +kernel
theorem dL_law_237 : decode cL_law 237 = .ok (.aload_n 0, 1) := by decide +kernel
theorem dL_law_238 : decode cL_law 238 = .ok (.iload 4, 2) := by decide +kernel
theorem dL_law_240 : decode cL_law 240 = .ok (.iconst 3, 1) := by decide +kernel
theorem dL_law_241 : decode cL_law 241 = .ok (.iadd, 1) := by decide +kernel
theorem dL_law_242 : decode cL_law 242 = .ok (.iaload, 1) := by decide +kernel
theorem dL_law_243 : decode cL_law 243 = .ok (.aload_n 3, 1) := by decide +kernel
theorem dL_law_244 : decode cL_law 244 = .ok (.invokestatic 92, 3) := by decide +kernel
theorem dL_law_247 : decode cL_law 247 = .ok (.istore 5, 2) := by decide +kernel
theorem dL_law_249 : decode cL_law 249 = .ok (.aload_n 2, 1) := by decide +kernel
theorem dL_law_250 : decode cL_law 250 = .ok (.aload_n 0, 1) := by decide +kernel
theorem dL_law_251 : decode cL_law 251 = .ok (.iload 4, 2) := by decide +kernel
theorem dL_law_253 : decode cL_law 253 = .ok (.iconst 1, 1) := by decide +kernel
theorem dL_law_254 : decode cL_law 254 = .ok (.iadd, 1) := by decide +kernel
theorem dL_law_255 : decode cL_law 255 = .ok (.iaload, 1) := by decide +kernel
theorem dL_law_256 : decode cL_law 256 = .ok (.aload_n 0, 1) := by decide +kernel
theorem dL_law_257 : decode cL_law 257 = .ok (.iload 4, 2) := by decide +kernel
theorem dL_law_259 : decode cL_law 259 = .ok (.iconst 2, 1) := by decide +kernel
theorem dL_law_260 : decode cL_law 260 = .ok (.iadd, 1) := by decide +kernel
theorem dL_law_261 : decode cL_law 261 = .ok (.iaload, 1) := by decide +kernel
theorem dL_law_262 : decode cL_law 262 = .ok (.aload_n 0, 1) := by decide +kernel
theorem dL_law_263 : decode cL_law 263 = .ok (.iload 4, 2) := by decide +kernel
theorem dL_law_265 : decode cL_law 265 = .ok (.iconst 3, 1) := by decide +kernel
theorem dL_law_266 : decode cL_law 266 = .ok (.iadd, 1) := by decide +kernel
theorem dL_law_267 : decode cL_law 267 = .ok (.iaload, 1) := by decide +kernel
theorem dL_law_268 : decode cL_law 268 = .ok (.invokevirtual 95, 3) := by decide +kernel
theorem dL_law_271 : decode cL_law 271 = .ok (.istore 6, 2) := by decide +kernel
theorem dL_law_273 : decode cL_law 273 = .ok (.aload_n 2, 1) := by decide +kernel
theorem dL_law_274 : decode cL_law 274 = .ok (.invokevirtual 89, 3) := by decide +kernel
theorem dL_law_277 : decode cL_law 277 = .ok (.iload 5, 2) := by decide +kernel
theorem dL_law_279 : decode cL_law 279 = .ok (.if_icmp .eq 5, 3) := by decide +kernel
theorem dL_law_282 : decode cL_law 282 = .ok (.iconst 0, 1) := by decide +kernel
theorem dL_law_283 : decode cL_law 283 = .ok (.ireturn, 1) := by decide +kernel
theorem dL_law_284 : decode cL_law 284 = .ok (.iload 5, 2) := by decide +kernel
theorem dL_law_286 : decode cL_law 286 = .ok (.ifCond .ne 15, 3) := by decide +kernel
theorem dL_law_289 : decode cL_law 289 = .ok (.aload_n 3, 1) := by decide +kernel
theorem dL_law_290 : decode cL_law 290 = .ok (.iconst 0, 1) := by decide +kernel
theorem dL_law_291 : decode cL_law 291 = .ok (.laload, 1) := by decide +kernel
theorem dL_law_292 : decode cL_law 292 = .ok (.iload 6, 2) := by decide +kernel
theorem dL_law_294 : decode cL_law 294 = .ok (.i2l, 1) := by decide +kernel
theorem dL_law_295 : decode cL_law 295 = .ok (.lcmp, 1) := by decide +kernel
theorem dL_law_296 : decode cL_law 296 = .ok (.ifCond .eq 5, 3) := by decide +kernel
theorem dL_law_299 : decode cL_law 299 = .ok (.iconst 0, 1) := by decide +kernel
theorem dL_law_300 : decode cL_law 300 = .ok (.ireturn, 1) := by decide +kernel
theorem dL_law_301 : decode cL_law 301 = .ok (.goto 1208, 3) := by decide +kernel
theorem dL_law_304 : decode cL_law 304 = .ok (.aload_n 1, 1) := by decide +kernel
theorem dL_law_305 : decode cL_law 305 = .ok (.aload_n 0, 1) := by decide +kernel
theorem dL_law_306 : decode cL_law 306 = .ok (.iload 4, 2) := by decide +kernel
theorem dL_law_308 : decode cL_law 308 = .ok (.iconst 1, 1) := by decide +kernel
theorem dL_law_309 : decode cL_law 309 = .ok (.iadd, 1) := by decide +kernel
theorem dL_law_310 : decode cL_law 310 = .ok (.iaload, 1) := by decide +kernel
theorem dL_law_311 : decode cL_law 311 = .ok (.aload_n 0, 1) := by decide +kernel
theorem dL_law_312 : decode cL_law 312 = .ok (.iload 4, 2) := by decide +kernel
theorem dL_law_314 : decode cL_law 314 = .ok (.iconst 2, 1) := by decide +kernel
theorem dL_law_315 : decode cL_law 315 = .ok (.iadd, 1) := by decide +kernel
theorem dL_law_316 : decode cL_law 316 = .ok (.iaload, 1) := by decide +kernel
theorem dL_law_317 : decode cL_law 317 = .ok (.aload_n 3, 1) := by decide +kernel
theorem dL_law_318 : decode cL_law 318 = .ok (.invokestatic 96, 3) := by decide +kernel
theorem dL_law_321 : decode cL_law 321 = .ok (.istore 5, 2) := by decide +kernel
theorem dL_law_323 : decode cL_law 323 = .ok (.aload_n 2, 1) := by decide +kernel
theorem dL_law_324 : decode cL_law 324 = .ok (.aload_n 0, 1) := by decide +kernel
theorem dL_law_325 : decode cL_law 325 = .ok (.iload 4, 2) := by decide +kernel
theorem dL_law_327 : decode cL_law 327 = .ok (.iconst 1, 1) := by decide +kernel
theorem dL_law_328 : decode cL_law 328 = .ok (.iadd, 1) := by decide +kernel
theorem dL_law_329 : decode cL_law 329 = .ok (.iaload, 1) := by decide +kernel
theorem dL_law_330 : decode cL_law 330 = .ok (.aload_n 0, 1) := by decide +kernel
theorem dL_law_331 : decode cL_law 331 = .ok (.iload 4, 2) := by decide +kernel
theorem dL_law_333 : decode cL_law 333 = .ok (.iconst 2, 1) := by decide +kernel
theorem dL_law_334 : decode cL_law 334 = .ok (.iadd, 1) := by decide +kernel
theorem dL_law_335 : decode cL_law 335 = .ok (.iaload, 1) := by decide +kernel
theorem dL_law_336 : decode cL_law 336 = .ok (.invokevirtual 98, 3) := by decide +kernel
theorem dL_law_339 : decode cL_law 339 = .ok (.istore 6, 2) := by decide +kernel
theorem dL_law_341 : decode cL_law 341 = .ok (.aload_n 2, 1) := by decide +kernel
theorem dL_law_342 : decode cL_law 342 = .ok (.invokevirtual 89, 3) := by decide +kernel
theorem dL_law_345 : decode cL_law 345 = .ok (.iload 5, 2) := by decide +kernel
theorem dL_law_347 : decode cL_law 347 = .ok (.if_icmp .eq 5, 3) := by decide +kernel
theorem dL_law_350 : decode cL_law 350 = .ok (.iconst 0, 1) := by decide +kernel
theorem dL_law_351 : decode cL_law 351 = .ok (.ireturn, 1) := by decide +kernel
theorem dL_law_352 : decode cL_law 352 = .ok (.iload 5, 2) := by decide +kernel
theorem dL_law_354 : decode cL_law 354 = .ok (.ifCond .ne 15, 3) := by decide +kernel
theorem dL_law_357 : decode cL_law 357 = .ok (.aload_n 3, 1) := by decide +kernel
theorem dL_law_358 : decode cL_law 358 = .ok (.iconst 0, 1) := by decide +kernel
theorem dL_law_359 : decode cL_law 359 = .ok (.laload, 1) := by decide +kernel
theorem dL_law_360 : decode cL_law 360 = .ok (.iload 6, 2) := by decide +kernel
theorem dL_law_362 : decode cL_law 362 = .ok (.i2l, 1) := by decide +kernel
theorem dL_law_363 : decode cL_law 363 = .ok (.lcmp, 1) := by decide +kernel
theorem dL_law_364 : decode cL_law 364 = .ok (.ifCond .eq 5, 3) := by decide +kernel
theorem dL_law_367 : decode cL_law 367 = .ok (.iconst 0, 1) := by decide +kernel
theorem dL_law_368 : decode cL_law 368 = .ok (.ireturn, 1) := by decide +kernel
theorem dL_law_369 : decode cL_law 369 = .ok (.goto 1140, 3) := by decide +kernel
theorem dL_law_372 : decode cL_law 372 = .ok (.aload_n 1, 1) := by decide +kernel
theorem dL_law_373 : decode cL_law 373 = .ok (.aload_n 0, 1) := by decide +kernel
theorem dL_law_374 : decode cL_law 374 = .ok (.iload 4, 2) := by decide +kernel
theorem dL_law_376 : decode cL_law 376 = .ok (.iconst 1, 1) := by decide +kernel
theorem dL_law_377 : decode cL_law 377 = .ok (.iadd, 1) := by decide +kernel
theorem dL_law_378 : decode cL_law 378 = .ok (.iaload, 1) := by decide +kernel
theorem dL_law_379 : decode cL_law 379 = .ok (.aload_n 0, 1) := by decide +kernel
theorem dL_law_380 : decode cL_law 380 = .ok (.iload 4, 2) := by decide +kernel
theorem dL_law_382 : decode cL_law 382 = .ok (.iconst 2, 1) := by decide +kernel
theorem dL_law_383 : decode cL_law 383 = .ok (.iadd, 1) := by decide +kernel
theorem dL_law_384 : decode cL_law 384 = .ok (.iaload, 1) := by decide +kernel
theorem dL_law_385 : decode cL_law 385 = .ok (.aload_n 0, 1) := by decide +kernel
theorem dL_law_386 : decode cL_law 386 = .ok (.iload 4, 2) := by decide +kernel
theorem dL_law_388 : decode cL_law 388 = .ok (.iconst 3, 1) := by decide +kernel
theorem dL_law_389 : decode cL_law 389 = .ok (.iadd, 1) := by decide +kernel
theorem dL_law_390 : decode cL_law 390 = .ok (.iaload, 1) := by decide +kernel
theorem dL_law_391 : decode cL_law 391 = .ok (.aload_n 0, 1) := by decide +kernel
theorem dL_law_392 : decode cL_law 392 = .ok (.iload 4, 2) := by decide +kernel
theorem dL_law_394 : decode cL_law 394 = .ok (.iconst 4, 1) := by decide +kernel
theorem dL_law_395 : decode cL_law 395 = .ok (.iadd, 1) := by decide +kernel
theorem dL_law_396 : decode cL_law 396 = .ok (.iaload, 1) := by decide +kernel
theorem dL_law_397 : decode cL_law 397 = .ok (.aload_n 3, 1) := by decide +kernel
theorem dL_law_398 : decode cL_law 398 = .ok (.invokestatic 99, 3) := by decide +kernel
theorem dL_law_401 : decode cL_law 401 = .ok (.istore 5, 2) := by decide +kernel
theorem dL_law_403 : decode cL_law 403 = .ok (.aload_n 2, 1) := by decide +kernel
theorem dL_law_404 : decode cL_law 404 = .ok (.aload_n 0, 1) := by decide +kernel
theorem dL_law_405 : decode cL_law 405 = .ok (.iload 4, 2) := by decide +kernel
theorem dL_law_407 : decode cL_law 407 = .ok (.iconst 1, 1) := by decide +kernel
theorem dL_law_408 : decode cL_law 408 = .ok (.iadd, 1) := by decide +kernel
theorem dL_law_409 : decode cL_law 409 = .ok (.iaload, 1) := by decide +kernel
theorem dL_law_410 : decode cL_law 410 = .ok (.aload_n 0, 1) := by decide +kernel
theorem dL_law_411 : decode cL_law 411 = .ok (.iload 4, 2) := by decide +kernel
theorem dL_law_413 : decode cL_law 413 = .ok (.iconst 2, 1) := by decide +kernel
theorem dL_law_414 : decode cL_law 414 = .ok (.iadd, 1) := by decide +kernel
theorem dL_law_415 : decode cL_law 415 = .ok (.iaload, 1) := by decide +kernel
theorem dL_law_416 : decode cL_law 416 = .ok (.aload_n 0, 1) := by decide +kernel
theorem dL_law_417 : decode cL_law 417 = .ok (.iload 4, 2) := by decide +kernel
theorem dL_law_419 : decode cL_law 419 = .ok (.iconst 3, 1) := by decide +kernel
theorem dL_law_420 : decode cL_law 420 = .ok (.iadd, 1) := by decide +kernel
theorem dL_law_421 : decode cL_law 421 = .ok (.iaload, 1) := by decide +kernel
theorem dL_law_422 : decode cL_law 422 = .ok (.aload_n 0, 1) := by decide +kernel
theorem dL_law_423 : decode cL_law 423 = .ok (.iload 4, 2) := by decide +kernel
theorem dL_law_425 : decode cL_law 425 = .ok (.iconst 4, 1) := by decide +kernel
theorem dL_law_426 : decode cL_law 426 = .ok (.iadd, 1) := by decide +kernel
theorem dL_law_427 : decode cL_law 427 = .ok (.iaload, 1) := by decide +kernel
theorem dL_law_428 : decode cL_law 428 = .ok (.invokevirtual 102, 3) := by decide +kernel
theorem dL_law_431 : decode cL_law 431 = .ok (.istore 6, 2) := by decide +kernel
theorem dL_law_433 : decode cL_law 433 = .ok (.aload_n 2, 1) := by decide +kernel
theorem dL_law_434 : decode cL_law 434 = .ok (.invokevirtual 89, 3) := by decide +kernel
theorem dL_law_437 : decode cL_law 437 = .ok (.iload 5, 2) := by decide +kernel
theorem dL_law_439 : decode cL_law 439 = .ok (.if_icmp .eq 5, 3) := by decide +kernel
theorem dL_law_442 : decode cL_law 442 = .ok (.iconst 0, 1) := by decide +kernel
theorem dL_law_443 : decode cL_law 443 = .ok (.ireturn, 1) := by decide +kernel
theorem dL_law_444 : decode cL_law 444 = .ok (.iload 5, 2) := by decide +kernel
theorem dL_law_446 : decode cL_law 446 = .ok (.ifCond .ne 15, 3) := by decide +kernel
theorem dL_law_449 : decode cL_law 449 = .ok (.aload_n 3, 1) := by decide +kernel
theorem dL_law_450 : decode cL_law 450 = .ok (.iconst 0, 1) := by decide +kernel
theorem dL_law_451 : decode cL_law 451 = .ok (.laload, 1) := by decide +kernel
theorem dL_law_452 : decode cL_law 452 = .ok (.iload 6, 2) := by decide +kernel
theorem dL_law_454 : decode cL_law 454 = .ok (.i2l, 1) := by decide +kernel
theorem dL_law_455 : decode cL_law 455 = .ok (.lcmp, 1) := by decide +kernel
theorem dL_law_456 : decode cL_law 456 = .ok (.ifCond .eq 5, 3) := by decide +kernel
theorem dL_law_459 : decode cL_law 459 = .ok (.iconst 0, 1) := by decide +kernel
theorem dL_law_460 : decode cL_law 460 = .ok (.ireturn, 1) := by decide +kernel
theorem dL_law_461 : decode cL_law 461 = .ok (.goto 1048, 3) := by decide +kernel
theorem dL_law_464 : decode cL_law 464 = .ok (.aload_n 1, 1) := by decide +kernel
theorem dL_law_465 : decode cL_law 465 = .ok (.aload_n 0, 1) := by decide +kernel
theorem dL_law_466 : decode cL_law 466 = .ok (.iload 4, 2) := by decide +kernel
theorem dL_law_468 : decode cL_law 468 = .ok (.iconst 1, 1) := by decide +kernel
theorem dL_law_469 : decode cL_law 469 = .ok (.iadd, 1) := by decide +kernel
theorem dL_law_470 : decode cL_law 470 = .ok (.iaload, 1) := by decide +kernel
theorem dL_law_471 : decode cL_law 471 = .ok (.aload_n 3, 1) := by decide +kernel
theorem dL_law_472 : decode cL_law 472 = .ok (.invokestatic 103, 3) := by decide +kernel
theorem dL_law_475 : decode cL_law 475 = .ok (.istore 5, 2) := by decide +kernel
theorem dL_law_477 : decode cL_law 477 = .ok (.aload_n 2, 1) := by decide +kernel
theorem dL_law_478 : decode cL_law 478 = .ok (.aload_n 0, 1) := by decide +kernel
theorem dL_law_479 : decode cL_law 479 = .ok (.iload 4, 2) := by decide +kernel
theorem dL_law_481 : decode cL_law 481 = .ok (.iconst 1, 1) := by decide +kernel
theorem dL_law_482 : decode cL_law 482 = .ok (.iadd, 1) := by decide +kernel
theorem dL_law_483 : decode cL_law 483 = .ok (.iaload, 1) := by decide +kernel
theorem dL_law_484 : decode cL_law 484 = .ok (.invokevirtual 106, 3) := by decide +kernel
theorem dL_law_487 : decode cL_law 487 = .ok (.istore 6, 2) := by decide +kernel
theorem dL_law_489 : decode cL_law 489 = .ok (.aload_n 2, 1) := by decide +kernel
theorem dL_law_490 : decode cL_law 490 = .ok (.invokevirtual 89, 3) := by decide +kernel
theorem dL_law_493 : decode cL_law 493 = .ok (.iload 5, 2) := by decide +kernel
theorem dL_law_495 : decode cL_law 495 = .ok (.if_icmp .eq 5, 3) := by decide +kernel
theorem dL_law_498 : decode cL_law 498 = .ok (.iconst 0, 1) := by decide +kernel
theorem dL_law_499 : decode cL_law 499 = .ok (.ireturn, 1) := by decide +kernel
theorem dL_law_500 : decode cL_law 500 = .ok (.iload 5, 2) := by decide +kernel
theorem dL_law_502 : decode cL_law 502 = .ok (.ifCond .ne 15, 3) := by decide +kernel
theorem dL_law_505 : decode cL_law 505 = .ok (.aload_n 3, 1) := by decide +kernel
theorem dL_law_506 : decode cL_law 506 = .ok (.iconst 0, 1) := by decide +kernel
theorem dL_law_507 : decode cL_law 507 = .ok (.laload, 1) := by decide +kernel
theorem dL_law_508 : decode cL_law 508 = .ok (.iload 6, 2) := by decide +kernel
theorem dL_law_510 : decode cL_law 510 = .ok (.i2l, 1) := by decide +kernel
theorem dL_law_511 : decode cL_law 511 = .ok (.lcmp, 1) := by decide +kernel
theorem dL_law_512 : decode cL_law 512 = .ok (.ifCond .eq 5, 3) := by decide +kernel
theorem dL_law_515 : decode cL_law 515 = .ok (.iconst 0, 1) := by decide +kernel
theorem dL_law_516 : decode cL_law 516 = .ok (.ireturn, 1) := by decide +kernel
theorem dL_law_517 : decode cL_law 517 = .ok (.goto 992, 3) := by decide +kernel
theorem dL_law_520 : decode cL_law 520 = .ok (.aload_n 1, 1) := by decide +kernel
theorem dL_law_521 : decode cL_law 521 = .ok (.aload_n 0, 1) := by decide +kernel
theorem dL_law_522 : decode cL_law 522 = .ok (.iload 4, 2) := by decide +kernel
theorem dL_law_524 : decode cL_law 524 = .ok (.iconst 1, 1) := by decide +kernel
theorem dL_law_525 : decode cL_law 525 = .ok (.iadd, 1) := by decide +kernel
theorem dL_law_526 : decode cL_law 526 = .ok (.iaload, 1) := by decide +kernel
theorem dL_law_527 : decode cL_law 527 = .ok (.aload_n 0, 1) := by decide +kernel
theorem dL_law_528 : decode cL_law 528 = .ok (.iload 4, 2) := by decide +kernel
theorem dL_law_530 : decode cL_law 530 = .ok (.iconst 2, 1) := by decide +kernel
theorem dL_law_531 : decode cL_law 531 = .ok (.iadd, 1) := by decide +kernel
theorem dL_law_532 : decode cL_law 532 = .ok (.iaload, 1) := by decide +kernel
theorem dL_law_533 : decode cL_law 533 = .ok (.aload_n 0, 1) := by decide +kernel
theorem dL_law_534 : decode cL_law 534 = .ok (.iload 4, 2) := by decide +kernel
theorem dL_law_536 : decode cL_law 536 = .ok (.iconst 3, 1) := by decide +kernel
theorem dL_law_537 : decode cL_law 537 = .ok (.iadd, 1) := by decide +kernel
theorem dL_law_538 : decode cL_law 538 = .ok (.iaload, 1) := by decide +kernel
theorem dL_law_539 : decode cL_law 539 = .ok (.aload_n 3, 1) := by decide +kernel
theorem dL_law_540 : decode cL_law 540 = .ok (.invokestatic 107, 3) := by decide +kernel
theorem dL_law_543 : decode cL_law 543 = .ok (.istore 5, 2) := by decide +kernel
theorem dL_law_545 : decode cL_law 545 = .ok (.aload_n 2, 1) := by decide +kernel
theorem dL_law_546 : decode cL_law 546 = .ok (.aload_n 0, 1) := by decide +kernel
theorem dL_law_547 : decode cL_law 547 = .ok (.iload 4, 2) := by decide +kernel
theorem dL_law_549 : decode cL_law 549 = .ok (.iconst 1, 1) := by decide +kernel
theorem dL_law_550 : decode cL_law 550 = .ok (.iadd, 1) := by decide +kernel
theorem dL_law_551 : decode cL_law 551 = .ok (.iaload, 1) := by decide +kernel
theorem dL_law_552 : decode cL_law 552 = .ok (.aload_n 0, 1) := by decide +kernel
theorem dL_law_553 : decode cL_law 553 = .ok (.iload 4, 2) := by decide +kernel
theorem dL_law_555 : decode cL_law 555 = .ok (.iconst 2, 1) := by decide +kernel
theorem dL_law_556 : decode cL_law 556 = .ok (.iadd, 1) := by decide +kernel
theorem dL_law_557 : decode cL_law 557 = .ok (.iaload, 1) := by decide +kernel
theorem dL_law_558 : decode cL_law 558 = .ok (.aload_n 0, 1) := by decide +kernel
theorem dL_law_559 : decode cL_law 559 = .ok (.iload 4, 2) := by decide +kernel
theorem dL_law_561 : decode cL_law 561 = .ok (.iconst 3, 1) := by decide +kernel
theorem dL_law_562 : decode cL_law 562 = .ok (.iadd, 1) := by decide +kernel
theorem dL_law_563 : decode cL_law 563 = .ok (.iaload, 1) := by decide +kernel
theorem dL_law_564 : decode cL_law 564 = .ok (.invokevirtual 109, 3) := by decide +kernel
theorem dL_law_567 : decode cL_law 567 = .ok (.istore 6, 2) := by decide +kernel
theorem dL_law_569 : decode cL_law 569 = .ok (.aload_n 2, 1) := by decide +kernel
theorem dL_law_570 : decode cL_law 570 = .ok (.invokevirtual 89, 3) := by decide +kernel
theorem dL_law_573 : decode cL_law 573 = .ok (.iload 5, 2) := by decide +kernel
theorem dL_law_575 : decode cL_law 575 = .ok (.if_icmp .eq 5, 3) := by decide +kernel
theorem dL_law_578 : decode cL_law 578 = .ok (.iconst 0, 1) := by decide +kernel
theorem dL_law_579 : decode cL_law 579 = .ok (.ireturn, 1) := by decide +kernel
theorem dL_law_580 : decode cL_law 580 = .ok (.iload 5, 2) := by decide +kernel
theorem dL_law_582 : decode cL_law 582 = .ok (.ifCond .ne 15, 3) := by decide +kernel
theorem dL_law_585 : decode cL_law 585 = .ok (.aload_n 3, 1) := by decide +kernel
theorem dL_law_586 : decode cL_law 586 = .ok (.iconst 0, 1) := by decide +kernel
theorem dL_law_587 : decode cL_law 587 = .ok (.laload, 1) := by decide +kernel
theorem dL_law_588 : decode cL_law 588 = .ok (.iload 6, 2) := by decide +kernel
theorem dL_law_590 : decode cL_law 590 = .ok (.i2l, 1) := by decide +kernel
theorem dL_law_591 : decode cL_law 591 = .ok (.lcmp, 1) := by decide +kernel
theorem dL_law_592 : decode cL_law 592 = .ok (.ifCond .eq 5, 3) := by decide +kernel
theorem dL_law_595 : decode cL_law 595 = .ok (.iconst 0, 1) := by decide +kernel
theorem dL_law_596 : decode cL_law 596 = .ok (.ireturn, 1) := by decide +kernel
theorem dL_law_597 : decode cL_law 597 = .ok (.goto 912, 3) := by decide +kernel
theorem dL_law_600 : decode cL_law 600 = .ok (.aload_n 1, 1) := by decide +kernel
theorem dL_law_601 : decode cL_law 601 = .ok (.aload_n 0, 1) := by decide +kernel
theorem dL_law_602 : decode cL_law 602 = .ok (.iload 4, 2) := by decide +kernel
theorem dL_law_604 : decode cL_law 604 = .ok (.iconst 1, 1) := by decide +kernel
theorem dL_law_605 : decode cL_law 605 = .ok (.iadd, 1) := by decide +kernel
theorem dL_law_606 : decode cL_law 606 = .ok (.iaload, 1) := by decide +kernel
theorem dL_law_607 : decode cL_law 607 = .ok (.aload_n 0, 1) := by decide +kernel
theorem dL_law_608 : decode cL_law 608 = .ok (.iload 4, 2) := by decide +kernel
theorem dL_law_610 : decode cL_law 610 = .ok (.iconst 2, 1) := by decide +kernel
theorem dL_law_611 : decode cL_law 611 = .ok (.iadd, 1) := by decide +kernel
theorem dL_law_612 : decode cL_law 612 = .ok (.iaload, 1) := by decide +kernel
theorem dL_law_613 : decode cL_law 613 = .ok (.ifCond .eq 7, 3) := by decide +kernel
theorem dL_law_616 : decode cL_law 616 = .ok (.iconst 1, 1) := by decide +kernel
theorem dL_law_617 : decode cL_law 617 = .ok (.goto 4, 3) := by decide +kernel
theorem dL_law_620 : decode cL_law 620 = .ok (.iconst 0, 1) := by decide +kernel
theorem dL_law_621 : decode cL_law 621 = .ok (.aload_n 3, 1) := by decide +kernel
theorem dL_law_622 : decode cL_law 622 = .ok (.invokestatic 110, 3) := by decide +kernel
theorem dL_law_625 : decode cL_law 625 = .ok (.istore 5, 2) := by decide +kernel
theorem dL_law_627 : decode cL_law 627 = .ok (.aload_n 2, 1) := by decide +kernel
theorem dL_law_628 : decode cL_law 628 = .ok (.aload_n 0, 1) := by decide +kernel
theorem dL_law_629 : decode cL_law 629 = .ok (.iload 4, 2) := by decide +kernel
theorem dL_law_631 : decode cL_law 631 = .ok (.iconst 1, 1) := by decide +kernel
theorem dL_law_632 : decode cL_law 632 = .ok (.iadd, 1) := by decide +kernel
theorem dL_law_633 : decode cL_law 633 = .ok (.iaload, 1) := by decide +kernel
theorem dL_law_634 : decode cL_law 634 = .ok (.aload_n 0, 1) := by decide +kernel
theorem dL_law_635 : decode cL_law 635 = .ok (.iload 4, 2) := by decide +kernel
theorem dL_law_637 : decode cL_law 637 = .ok (.iconst 2, 1) := by decide +kernel
theorem dL_law_638 : decode cL_law 638 = .ok (.iadd, 1) := by decide +kernel
theorem dL_law_639 : decode cL_law 639 = .ok (.iaload, 1) := by decide +kernel
theorem dL_law_640 : decode cL_law 640 = .ok (.ifCond .eq 7, 3) := by decide +kernel
theorem dL_law_643 : decode cL_law 643 = .ok (.iconst 1, 1) := by decide +kernel
theorem dL_law_644 : decode cL_law 644 = .ok (.goto 4, 3) := by decide +kernel
theorem dL_law_647 : decode cL_law 647 = .ok (.iconst 0, 1) := by decide +kernel
theorem dL_law_648 : decode cL_law 648 = .ok (.invokevirtual 113, 3) := by decide +kernel
theorem dL_law_651 : decode cL_law 651 = .ok (.istore 6, 2) := by decide +kernel
theorem dL_law_653 : decode cL_law 653 = .ok (.aload_n 2, 1) := by decide +kernel
theorem dL_law_654 : decode cL_law 654 = .ok (.invokevirtual 89, 3) := by decide +kernel
theorem dL_law_657 : decode cL_law 657 = .ok (.iload 5, 2) := by decide +kernel
theorem dL_law_659 : decode cL_law 659 = .ok (.if_icmp .eq 5, 3) := by decide +kernel
theorem dL_law_662 : decode cL_law 662 = .ok (.iconst 0, 1) := by decide +kernel
theorem dL_law_663 : decode cL_law 663 = .ok (.ireturn, 1) := by decide +kernel
theorem dL_law_664 : decode cL_law 664 = .ok (.iload 5, 2) := by decide +kernel
theorem dL_law_666 : decode cL_law 666 = .ok (.ifCond .ne 22, 3) := by decide +kernel
theorem dL_law_669 : decode cL_law 669 = .ok (.aload_n 3, 1) := by decide +kernel
theorem dL_law_670 : decode cL_law 670 = .ok (.iconst 0, 1) := by decide +kernel
theorem dL_law_671 : decode cL_law 671 = .ok (.laload, 1) := by decide +kernel
theorem dL_law_672 : decode cL_law 672 = .ok (.iload 6, 2) := by decide +kernel
theorem dL_law_674 : decode cL_law 674 = .ok (.ifCond .eq 7, 3) := by decide +kernel
theorem dL_law_677 : decode cL_law 677 = .ok (.lconst 1, 1) := by decide +kernel
theorem dL_law_678 : decode cL_law 678 = .ok (.goto 4, 3) := by decide +kernel
theorem dL_law_681 : decode cL_law 681 = .ok (.lconst 0, 1) := by decide +kernel
theorem dL_law_682 : decode cL_law 682 = .ok (.lcmp, 1) := by decide +kernel
theorem dL_law_683 : decode cL_law 683 = .ok (.ifCond .eq 5, 3) := by decide +kernel
theorem dL_law_686 : decode cL_law 686 = .ok (.iconst 0, 1) := by decide +kernel
theorem dL_law_687 : decode cL_law 687 = .ok (.ireturn, 1) := by decide +kernel
theorem dL_law_688 : decode cL_law 688 = .ok (.goto 821, 3) := by decide +kernel
theorem dL_law_691 : decode cL_law 691 = .ok (.aload_n 1, 1) := by decide +kernel
theorem dL_law_692 : decode cL_law 692 = .ok (.invokevirtual 114, 3) := by decide +kernel
theorem dL_law_695 : decode cL_law 695 = .ok (.aload_n 2, 1) := by decide +kernel
theorem dL_law_696 : decode cL_law 696 = .ok (.invokevirtual 117, 3) := by decide +kernel
theorem dL_law_699 : decode cL_law 699 = .ok (.if_icmp .eq 810, 3) := by decide +kernel
theorem dL_law_702 : decode cL_law 702 = .ok (.iconst 0, 1) := by decide +kernel
theorem dL_law_703 : decode cL_law 703 = .ok (.ireturn, 1) := by decide +kernel
theorem dL_law_704 : decode cL_law 704 = .ok (.aload_n 1, 1) := by decide +kernel
theorem dL_law_705 : decode cL_law 705 = .ok (.aload_n 0, 1) := by decide +kernel
theorem dL_law_706 : decode cL_law 706 = .ok (.iload 4, 2) := by decide +kernel
theorem dL_law_708 : decode cL_law 708 = .ok (.iconst 1, 1) := by decide +kernel
theorem dL_law_709 : decode cL_law 709 = .ok (.iadd, 1) := by decide +kernel
theorem dL_law_710 : decode cL_law 710 = .ok (.iaload, 1) := by decide +kernel
theorem dL_law_711 : decode cL_law 711 = .ok (.aload_n 0, 1) := by decide +kernel
theorem dL_law_712 : decode cL_law 712 = .ok (.iload 4, 2) := by decide +kernel
theorem dL_law_714 : decode cL_law 714 = .ok (.iconst 2, 1) := by decide +kernel
theorem dL_law_715 : decode cL_law 715 = .ok (.iadd, 1) := by decide +kernel
theorem dL_law_716 : decode cL_law 716 = .ok (.iaload, 1) := by decide +kernel
theorem dL_law_717 : decode cL_law 717 = .ok (.aload_n 3, 1) := by decide +kernel
theorem dL_law_718 : decode cL_law 718 = .ok (.invokestatic 118, 3) := by decide +kernel
theorem dL_law_721 : decode cL_law 721 = .ok (.istore 5, 2) := by decide +kernel
theorem dL_law_723 : decode cL_law 723 = .ok (.aload_n 2, 1) := by decide +kernel
theorem dL_law_724 : decode cL_law 724 = .ok (.aload_n 0, 1) := by decide +kernel
theorem dL_law_725 : decode cL_law 725 = .ok (.iload 4, 2) := by decide +kernel
theorem dL_law_727 : decode cL_law 727 = .ok (.iconst 1, 1) := by decide +kernel
theorem dL_law_728 : decode cL_law 728 = .ok (.iadd, 1) := by decide +kernel
theorem dL_law_729 : decode cL_law 729 = .ok (.iaload, 1) := by decide +kernel
theorem dL_law_730 : decode cL_law 730 = .ok (.aload_n 0, 1) := by decide +kernel
theorem dL_law_731 : decode cL_law 731 = .ok (.iload 4, 2) := by decide +kernel
theorem dL_law_733 : decode cL_law 733 = .ok (.iconst 2, 1) := by decide +kernel
theorem dL_law_734 : decode cL_law 734 = .ok (.iadd, 1) := by decide +kernel
theorem dL_law_735 : decode cL_law 735 = .ok (.iaload, 1) := by decide +kernel
theorem dL_law_736 : decode cL_law 736 = .ok (.invokevirtual 120, 3) := by decide +kernel
theorem dL_law_739 : decode cL_law 739 = .ok (.istore 6, 2) := by decide +kernel
theorem dL_law_741 : decode cL_law 741 = .ok (.aload_n 2, 1) := by decide +kernel
theorem dL_law_742 : decode cL_law 742 = .ok (.invokevirtual 89, 3) := by decide +kernel
theorem dL_law_745 : decode cL_law 745 = .ok (.iload 5, 2) := by decide +kernel
theorem dL_law_747 : decode cL_law 747 = .ok (.if_icmp .eq 5, 3) := by decide +kernel
theorem dL_law_750 : decode cL_law 750 = .ok (.iconst 0, 1) := by decide +kernel
theorem dL_law_751 : decode cL_law 751 = .ok (.ireturn, 1) := by decide +kernel
theorem dL_law_752 : decode cL_law 752 = .ok (.iload 5, 2) := by decide +kernel
theorem dL_law_754 : decode cL_law 754 = .ok (.ifCond .ne 15, 3) := by decide +kernel
theorem dL_law_757 : decode cL_law 757 = .ok (.aload_n 3, 1) := by decide +kernel
theorem dL_law_758 : decode cL_law 758 = .ok (.iconst 0, 1) := by decide +kernel
theorem dL_law_759 : decode cL_law 759 = .ok (.laload, 1) := by decide +kernel
theorem dL_law_760 : decode cL_law 760 = .ok (.iload 6, 2) := by decide +kernel
theorem dL_law_762 : decode cL_law 762 = .ok (.i2l, 1) := by decide +kernel
theorem dL_law_763 : decode cL_law 763 = .ok (.lcmp, 1) := by decide +kernel
theorem dL_law_764 : decode cL_law 764 = .ok (.ifCond .eq 5, 3) := by decide +kernel
theorem dL_law_767 : decode cL_law 767 = .ok (.iconst 0, 1) := by decide +kernel
theorem dL_law_768 : decode cL_law 768 = .ok (.ireturn, 1) := by decide +kernel
theorem dL_law_769 : decode cL_law 769 = .ok (.goto 740, 3) := by decide +kernel
theorem dL_law_772 : decode cL_law 772 = .ok (.aload_n 1, 1) := by decide +kernel
theorem dL_law_773 : decode cL_law 773 = .ok (.aload_n 0, 1) := by decide +kernel
theorem dL_law_774 : decode cL_law 774 = .ok (.iload 4, 2) := by decide +kernel
theorem dL_law_776 : decode cL_law 776 = .ok (.iconst 1, 1) := by decide +kernel
theorem dL_law_777 : decode cL_law 777 = .ok (.iadd, 1) := by decide +kernel
theorem dL_law_778 : decode cL_law 778 = .ok (.iaload, 1) := by decide +kernel
theorem dL_law_779 : decode cL_law 779 = .ok (.aload_n 0, 1) := by decide +kernel
theorem dL_law_780 : decode cL_law 780 = .ok (.iload 4, 2) := by decide +kernel
theorem dL_law_782 : decode cL_law 782 = .ok (.iconst 2, 1) := by decide +kernel
theorem dL_law_783 : decode cL_law 783 = .ok (.iadd, 1) := by decide +kernel
theorem dL_law_784 : decode cL_law 784 = .ok (.iaload, 1) := by decide +kernel
theorem dL_law_785 : decode cL_law 785 = .ok (.aload_n 3, 1) := by decide +kernel
theorem dL_law_786 : decode cL_law 786 = .ok (.invokestatic 121, 3) := by decide +kernel
theorem dL_law_789 : decode cL_law 789 = .ok (.istore 5, 2) := by decide +kernel
theorem dL_law_791 : decode cL_law 791 = .ok (.aload_n 2, 1) := by decide +kernel
theorem dL_law_792 : decode cL_law 792 = .ok (.aload_n 0, 1) := by decide +kernel
theorem dL_law_793 : decode cL_law 793 = .ok (.iload 4, 2) := by decide +kernel
theorem dL_law_795 : decode cL_law 795 = .ok (.iconst 1, 1) := by decide +kernel
theorem dL_law_796 : decode cL_law 796 = .ok (.iadd, 1) := by decide +kernel
theorem dL_law_797 : decode cL_law 797 = .ok (.iaload, 1) := by decide +kernel
theorem dL_law_798 : decode cL_law 798 = .ok (.aload_n 0, 1) := by decide +kernel
theorem dL_law_799 : decode cL_law 799 = .ok (.iload 4, 2) := by decide +kernel
theorem dL_law_801 : decode cL_law 801 = .ok (.iconst 2, 1) := by decide +kernel
theorem dL_law_802 : decode cL_law 802 = .ok (.iadd, 1) := by decide +kernel
theorem dL_law_803 : decode cL_law 803 = .ok (.iaload, 1) := by decide +kernel
theorem dL_law_804 : decode cL_law 804 = .ok (.invokevirtual 123, 3) := by decide +kernel
theorem dL_law_807 : decode cL_law 807 = .ok (.istore 6, 2) := by decide +kernel
theorem dL_law_809 : decode cL_law 809 = .ok (.aload_n 2, 1) := by decide +kernel
theorem dL_law_810 : decode cL_law 810 = .ok (.invokevirtual 89, 3) := by decide +kernel
theorem dL_law_813 : decode cL_law 813 = .ok (.iload 5, 2) := by decide +kernel
theorem dL_law_815 : decode cL_law 815 = .ok (.if_icmp .eq 5, 3) := by decide +kernel
theorem dL_law_818 : decode cL_law 818 = .ok (.iconst 0, 1) := by decide +kernel
theorem dL_law_819 : decode cL_law 819 = .ok (.ireturn, 1) := by decide +kernel
theorem dL_law_820 : decode cL_law 820 = .ok (.iload 5, 2) := by decide +kernel
theorem dL_law_822 : decode cL_law 822 = .ok (.ifCond .ne 15, 3) := by decide +kernel
theorem dL_law_825 : decode cL_law 825 = .ok (.aload_n 3, 1) := by decide +kernel
theorem dL_law_826 : decode cL_law 826 = .ok (.iconst 0, 1) := by decide +kernel
theorem dL_law_827 : decode cL_law 827 = .ok (.laload, 1) := by decide +kernel
theorem dL_law_828 : decode cL_law 828 = .ok (.iload 6, 2) := by decide +kernel
theorem dL_law_830 : decode cL_law 830 = .ok (.i2l, 1) := by decide +kernel
theorem dL_law_831 : decode cL_law 831 = .ok (.lcmp, 1) := by decide +kernel
theorem dL_law_832 : decode cL_law 832 = .ok (.ifCond .eq 5, 3) := by decide +kernel
theorem dL_law_835 : decode cL_law 835 = .ok (.iconst 0, 1) := by decide +kernel
theorem dL_law_836 : decode cL_law 836 = .ok (.ireturn, 1) := by decide +kernel
theorem dL_law_837 : decode cL_law 837 = .ok (.goto 672, 3) := by decide +kernel
theorem dL_law_840 : decode cL_law 840 = .ok (.aload_n 1, 1) := by decide +kernel
theorem dL_law_841 : decode cL_law 841 = .ok (.aload_n 0, 1) := by decide +kernel
theorem dL_law_842 : decode cL_law 842 = .ok (.iload 4, 2) := by decide +kernel
theorem dL_law_844 : decode cL_law 844 = .ok (.iconst 1, 1) := by decide +kernel
theorem dL_law_845 : decode cL_law 845 = .ok (.iadd, 1) := by decide +kernel
theorem dL_law_846 : decode cL_law 846 = .ok (.iaload, 1) := by decide +kernel
theorem dL_law_847 : decode cL_law 847 = .ok (.aload_n 3, 1) := by decide +kernel
theorem dL_law_848 : decode cL_law 848 = .ok (.invokestatic 124, 3) := by decide +kernel
theorem dL_law_851 : decode cL_law 851 = .ok (.istore 5, 2) := by decide +kernel
theorem dL_law_853 : decode cL_law 853 = .ok (.aload_n 2, 1) := by decide +kernel
theorem dL_law_854 : decode cL_law 854 = .ok (.aload_n 0, 1) := by decide +kernel
theorem dL_law_855 : decode cL_law 855 = .ok (.iload 4, 2) := by decide +kernel
theorem dL_law_857 : decode cL_law 857 = .ok (.iconst 1, 1) := by decide +kernel
theorem dL_law_858 : decode cL_law 858 = .ok (.iadd, 1) := by decide +kernel
theorem dL_law_859 : decode cL_law 859 = .ok (.iaload, 1) := by decide +kernel
theorem dL_law_860 : decode cL_law 860 = .ok (.invokevirtual 126, 3) := by decide +kernel
theorem dL_law_863 : decode cL_law 863 = .ok (.istore 6, 2) := by decide +kernel
theorem dL_law_865 : decode cL_law 865 = .ok (.aload_n 2, 1) := by decide +kernel
theorem dL_law_866 : decode cL_law 866 = .ok (.invokevirtual 89, 3) := by decide +kernel
theorem dL_law_869 : decode cL_law 869 = .ok (.iload 5, 2) := by decide +kernel
theorem dL_law_871 : decode cL_law 871 = .ok (.if_icmp .eq 5, 3) := by decide +kernel
theorem dL_law_874 : decode cL_law 874 = .ok (.iconst 0, 1) := by decide +kernel
theorem dL_law_875 : decode cL_law 875 = .ok (.ireturn, 1) := by decide +kernel
theorem dL_law_876 : decode cL_law 876 = .ok (.iload 5, 2) := by decide +kernel
theorem dL_law_878 : decode cL_law 878 = .ok (.ifCond .ne 15, 3) := by decide +kernel
theorem dL_law_881 : decode cL_law 881 = .ok (.aload_n 3, 1) := by decide +kernel
theorem dL_law_882 : decode cL_law 882 = .ok (.iconst 0, 1) := by decide +kernel
theorem dL_law_883 : decode cL_law 883 = .ok (.laload, 1) := by decide +kernel
theorem dL_law_884 : decode cL_law 884 = .ok (.iload 6, 2) := by decide +kernel
theorem dL_law_886 : decode cL_law 886 = .ok (.i2l, 1) := by decide +kernel
theorem dL_law_887 : decode cL_law 887 = .ok (.lcmp, 1) := by decide +kernel
theorem dL_law_888 : decode cL_law 888 = .ok (.ifCond .eq 5, 3) := by decide +kernel
theorem dL_law_891 : decode cL_law 891 = .ok (.iconst 0, 1) := by decide +kernel
theorem dL_law_892 : decode cL_law 892 = .ok (.ireturn, 1) := by decide +kernel
theorem dL_law_893 : decode cL_law 893 = .ok (.goto 616, 3) := by decide +kernel
theorem dL_law_896 : decode cL_law 896 = .ok (.aload_n 1, 1) := by decide +kernel
theorem dL_law_897 : decode cL_law 897 = .ok (.aload_n 0, 1) := by decide +kernel
theorem dL_law_898 : decode cL_law 898 = .ok (.iload 4, 2) := by decide +kernel
theorem dL_law_900 : decode cL_law 900 = .ok (.iconst 1, 1) := by decide +kernel
theorem dL_law_901 : decode cL_law 901 = .ok (.iadd, 1) := by decide +kernel
theorem dL_law_902 : decode cL_law 902 = .ok (.iaload, 1) := by decide +kernel
theorem dL_law_903 : decode cL_law 903 = .ok (.aload_n 3, 1) := by decide +kernel
theorem dL_law_904 : decode cL_law 904 = .ok (.invokestatic 127, 3) := by decide +kernel
theorem dL_law_907 : decode cL_law 907 = .ok (.istore 5, 2) := by decide +kernel
theorem dL_law_909 : decode cL_law 909 = .ok (.aload_n 2, 1) := by decide +kernel
theorem dL_law_910 : decode cL_law 910 = .ok (.aload_n 0, 1) := by decide +kernel
theorem dL_law_911 : decode cL_law 911 = .ok (.iload 4, 2) := by decide +kernel
theorem dL_law_913 : decode cL_law 913 = .ok (.iconst 1, 1) := by decide +kernel
theorem dL_law_914 : decode cL_law 914 = .ok (.iadd, 1) := by decide +kernel
theorem dL_law_915 : decode cL_law 915 = .ok (.iaload, 1) := by decide +kernel
theorem dL_law_916 : decode cL_law 916 = .ok (.invokevirtual 129, 3) := by decide +kernel
theorem dL_law_919 : decode cL_law 919 = .ok (.istore 6, 2) := by decide +kernel
theorem dL_law_921 : decode cL_law 921 = .ok (.aload_n 2, 1) := by decide +kernel
theorem dL_law_922 : decode cL_law 922 = .ok (.invokevirtual 89, 3) := by decide +kernel
theorem dL_law_925 : decode cL_law 925 = .ok (.iload 5, 2) := by decide +kernel
theorem dL_law_927 : decode cL_law 927 = .ok (.if_icmp .eq 5, 3) := by decide +kernel
theorem dL_law_930 : decode cL_law 930 = .ok (.iconst 0, 1) := by decide +kernel
theorem dL_law_931 : decode cL_law 931 = .ok (.ireturn, 1) := by decide +kernel
theorem dL_law_932 : decode cL_law 932 = .ok (.iload 5, 2) := by decide +kernel
theorem dL_law_934 : decode cL_law 934 = .ok (.ifCond .ne 15, 3) := by decide +kernel
theorem dL_law_937 : decode cL_law 937 = .ok (.aload_n 3, 1) := by decide +kernel
theorem dL_law_938 : decode cL_law 938 = .ok (.iconst 0, 1) := by decide +kernel
theorem dL_law_939 : decode cL_law 939 = .ok (.laload, 1) := by decide +kernel
theorem dL_law_940 : decode cL_law 940 = .ok (.iload 6, 2) := by decide +kernel
theorem dL_law_942 : decode cL_law 942 = .ok (.i2l, 1) := by decide +kernel
theorem dL_law_943 : decode cL_law 943 = .ok (.lcmp, 1) := by decide +kernel
theorem dL_law_944 : decode cL_law 944 = .ok (.ifCond .eq 5, 3) := by decide +kernel
theorem dL_law_947 : decode cL_law 947 = .ok (.iconst 0, 1) := by decide +kernel
theorem dL_law_948 : decode cL_law 948 = .ok (.ireturn, 1) := by decide +kernel
theorem dL_law_949 : decode cL_law 949 = .ok (.goto 560, 3) := by decide +kernel
theorem dL_law_952 : decode cL_law 952 = .ok (.aload_n 1, 1) := by decide +kernel
theorem dL_law_953 : decode cL_law 953 = .ok (.aload_n 0, 1) := by decide +kernel
theorem dL_law_954 : decode cL_law 954 = .ok (.iload 4, 2) := by decide +kernel
theorem dL_law_956 : decode cL_law 956 = .ok (.iconst 1, 1) := by decide +kernel
theorem dL_law_957 : decode cL_law 957 = .ok (.iadd, 1) := by decide +kernel
theorem dL_law_958 : decode cL_law 958 = .ok (.iaload, 1) := by decide +kernel
theorem dL_law_959 : decode cL_law 959 = .ok (.aload_n 0, 1) := by decide +kernel
theorem dL_law_960 : decode cL_law 960 = .ok (.iload 4, 2) := by decide +kernel
theorem dL_law_962 : decode cL_law 962 = .ok (.iconst 2, 1) := by decide +kernel
theorem dL_law_963 : decode cL_law 963 = .ok (.iadd, 1) := by decide +kernel
theorem dL_law_964 : decode cL_law 964 = .ok (.iaload, 1) := by decide +kernel
theorem dL_law_965 : decode cL_law 965 = .ok (.aload_n 3, 1) := by decide +kernel
theorem dL_law_966 : decode cL_law 966 = .ok (.invokestatic 130, 3) := by decide +kernel
theorem dL_law_969 : decode cL_law 969 = .ok (.istore 5, 2) := by decide +kernel
theorem dL_law_971 : decode cL_law 971 = .ok (.aload_n 2, 1) := by decide +kernel
theorem dL_law_972 : decode cL_law 972 = .ok (.aload_n 0, 1) := by decide +kernel
theorem dL_law_973 : decode cL_law 973 = .ok (.iload 4, 2) := by decide +kernel
theorem dL_law_975 : decode cL_law 975 = .ok (.iconst 1, 1) := by decide +kernel
theorem dL_law_976 : decode cL_law 976 = .ok (.iadd, 1) := by decide +kernel
theorem dL_law_977 : decode cL_law 977 = .ok (.iaload, 1) := by decide +kernel
theorem dL_law_978 : decode cL_law 978 = .ok (.aload_n 0, 1) := by decide +kernel
theorem dL_law_979 : decode cL_law 979 = .ok (.iload 4, 2) := by decide +kernel
theorem dL_law_981 : decode cL_law 981 = .ok (.iconst 2, 1) := by decide +kernel
theorem dL_law_982 : decode cL_law 982 = .ok (.iadd, 1) := by decide +kernel
theorem dL_law_983 : decode cL_law 983 = .ok (.iaload, 1) := by decide +kernel
theorem dL_law_984 : decode cL_law 984 = .ok (.invokevirtual 132, 3) := by decide +kernel
theorem dL_law_987 : decode cL_law 987 = .ok (.istore 6, 2) := by decide +kernel
theorem dL_law_989 : decode cL_law 989 = .ok (.aload_n 2, 1) := by decide +kernel
theorem dL_law_990 : decode cL_law 990 = .ok (.invokevirtual 89, 3) := by decide +kernel
theorem dL_law_993 : decode cL_law 993 = .ok (.iload 5, 2) := by decide +kernel
theorem dL_law_995 : decode cL_law 995 = .ok (.if_icmp .eq 5, 3) := by decide +kernel
theorem dL_law_998 : decode cL_law 998 = .ok (.iconst 0, 1) := by decide +kernel
theorem dL_law_999 : decode cL_law 999 = .ok (.ireturn, 1) := by decide +kernel
theorem dL_law_1000 : decode cL_law 1000 = .ok (.iload 5, 2) := by decide +kernel
theorem dL_law_1002 : decode cL_law 1002 = .ok (.ifCond .ne 15, 3) := by decide +kernel
theorem dL_law_1005 : decode cL_law 1005 = .ok (.aload_n 3, 1) := by decide +kernel
theorem dL_law_1006 : decode cL_law 1006 = .ok (.iconst 0, 1) := by decide +kernel
theorem dL_law_1007 : decode cL_law 1007 = .ok (.laload, 1) := by decide +kernel
theorem dL_law_1008 : decode cL_law 1008 = .ok (.iload 6, 2) := by decide +kernel
theorem dL_law_1010 : decode cL_law 1010 = .ok (.i2l, 1) := by decide +kernel
theorem dL_law_1011 : decode cL_law 1011 = .ok (.lcmp, 1) := by decide +kernel
theorem dL_law_1012 : decode cL_law 1012 = .ok (.ifCond .eq 5, 3) := by decide +kernel
theorem dL_law_1015 : decode cL_law 1015 = .ok (.iconst 0, 1) := by decide +kernel
theorem dL_law_1016 : decode cL_law 1016 = .ok (.ireturn, 1) := by decide +kernel
theorem dL_law_1017 : decode cL_law 1017 = .ok (.goto 492, 3) := by decide +kernel
theorem dL_law_1020 : decode cL_law 1020 = .ok (.aload_n 1, 1) := by decide +kernel
theorem dL_law_1021 : decode cL_law 1021 = .ok (.aload_n 0, 1) := by decide +kernel
theorem dL_law_1022 : decode cL_law 1022 = .ok (.iload 4, 2) := by decide +kernel
theorem dL_law_1024 : decode cL_law 1024 = .ok (.iconst 1, 1) := by decide +kernel
theorem dL_law_1025 : decode cL_law 1025 = .ok (.iadd, 1) := by decide +kernel
theorem dL_law_1026 : decode cL_law 1026 = .ok (.iaload, 1) := by decide +kernel
theorem dL_law_1027 : decode cL_law 1027 = .ok (.aload_n 0, 1) := by decide +kernel
theorem dL_law_1028 : decode cL_law 1028 = .ok (.iload 4, 2) := by decide +kernel
theorem dL_law_1030 : decode cL_law 1030 = .ok (.iconst 2, 1) := by decide +kernel
theorem dL_law_1031 : decode cL_law 1031 = .ok (.iadd, 1) := by decide +kernel
theorem dL_law_1032 : decode cL_law 1032 = .ok (.iaload, 1) := by decide +kernel
theorem dL_law_1033 : decode cL_law 1033 = .ok (.aload_n 3, 1) := by decide +kernel
theorem dL_law_1034 : decode cL_law 1034 = .ok (.invokestatic 133, 3) := by decide +kernel
theorem dL_law_1037 : decode cL_law 1037 = .ok (.istore 5, 2) := by decide +kernel
theorem dL_law_1039 : decode cL_law 1039 = .ok (.aload_n 2, 1) := by decide +kernel
theorem dL_law_1040 : decode cL_law 1040 = .ok (.aload_n 0, 1) := by decide +kernel
theorem dL_law_1041 : decode cL_law 1041 = .ok (.iload 4, 2) := by decide +kernel
theorem dL_law_1043 : decode cL_law 1043 = .ok (.iconst 1, 1) := by decide +kernel
theorem dL_law_1044 : decode cL_law 1044 = .ok (.iadd, 1) := by decide +kernel
theorem dL_law_1045 : decode cL_law 1045 = .ok (.iaload, 1) := by decide +kernel
theorem dL_law_1046 : decode cL_law 1046 = .ok (.aload_n 0, 1) := by decide +kernel
theorem dL_law_1047 : decode cL_law 1047 = .ok (.iload 4, 2) := by decide +kernel
theorem dL_law_1049 : decode cL_law 1049 = .ok (.iconst 2, 1) := by decide +kernel
theorem dL_law_1050 : decode cL_law 1050 = .ok (.iadd, 1) := by decide +kernel
theorem dL_law_1051 : decode cL_law 1051 = .ok (.iaload, 1) := by decide +kernel
theorem dL_law_1052 : decode cL_law 1052 = .ok (.invokevirtual 135, 3) := by decide +kernel
theorem dL_law_1055 : decode cL_law 1055 = .ok (.istore 6, 2) := by decide +kernel
theorem dL_law_1057 : decode cL_law 1057 = .ok (.aload_n 2, 1) := by decide +kernel
theorem dL_law_1058 : decode cL_law 1058 = .ok (.invokevirtual 89, 3) := by decide +kernel
theorem dL_law_1061 : decode cL_law 1061 = .ok (.iload 5, 2) := by decide +kernel
theorem dL_law_1063 : decode cL_law 1063 = .ok (.if_icmp .eq 5, 3) := by decide +kernel
theorem dL_law_1066 : decode cL_law 1066 = .ok (.iconst 0, 1) := by decide +kernel
theorem dL_law_1067 : decode cL_law 1067 = .ok (.ireturn, 1) := by decide +kernel
theorem dL_law_1068 : decode cL_law 1068 = .ok (.iload 5, 2) := by decide +kernel
theorem dL_law_1070 : decode cL_law 1070 = .ok (.ifCond .ne 15, 3) := by decide +kernel
theorem dL_law_1073 : decode cL_law 1073 = .ok (.aload_n 3, 1) := by decide +kernel
theorem dL_law_1074 : decode cL_law 1074 = .ok (.iconst 0, 1) := by decide +kernel
theorem dL_law_1075 : decode cL_law 1075 = .ok (.laload, 1) := by decide +kernel
theorem dL_law_1076 : decode cL_law 1076 = .ok (.iload 6, 2) := by decide +kernel
theorem dL_law_1078 : decode cL_law 1078 = .ok (.i2l, 1) := by decide +kernel
theorem dL_law_1079 : decode cL_law 1079 = .ok (.lcmp, 1) := by decide +kernel
theorem dL_law_1080 : decode cL_law 1080 = .ok (.ifCond .eq 5, 3) := by decide +kernel
theorem dL_law_1083 : decode cL_law 1083 = .ok (.iconst 0, 1) := by decide +kernel
theorem dL_law_1084 : decode cL_law 1084 = .ok (.ireturn, 1) := by decide +kernel
theorem dL_law_1085 : decode cL_law 1085 = .ok (.goto 424, 3) := by decide +kernel
theorem dL_law_1088 : decode cL_law 1088 = .ok (.aload_n 1, 1) := by decide +kernel
theorem dL_law_1089 : decode cL_law 1089 = .ok (.aload_n 3, 1) := by decide +kernel
theorem dL_law_1090 : decode cL_law 1090 = .ok (.invokestatic 136, 3) := by decide +kernel
theorem dL_law_1093 : decode cL_law 1093 = .ok (.istore 5, 2) := by decide +kernel
theorem dL_law_1095 : decode cL_law 1095 = .ok (.aload_n 2, 1) := by decide +kernel
theorem dL_law_1096 : decode cL_law 1096 = .ok (.invokevirtual 139, 3) := by decide +kernel
theorem dL_law_1099 : decode cL_law 1099 = .ok (.istore 6, 2) := by decide +kernel
theorem dL_law_1101 : decode cL_law 1101 = .ok (.aload_n 2, 1) := by decide +kernel
theorem dL_law_1102 : decode cL_law 1102 = .ok (.invokevirtual 89, 3) := by decide +kernel
theorem dL_law_1105 : decode cL_law 1105 = .ok (.iload 5, 2) := by decide +kernel
theorem dL_law_1107 : decode cL_law 1107 = .ok (.if_icmp .eq 5, 3) := by decide +kernel
theorem dL_law_1110 : decode cL_law 1110 = .ok (.iconst 0, 1) := by decide +kernel
theorem dL_law_1111 : decode cL_law 1111 = .ok (.ireturn, 1) := by decide +kernel
theorem dL_law_1112 : decode cL_law 1112 = .ok (.iload 5, 2) := by decide +kernel
theorem dL_law_1114 : decode cL_law 1114 = .ok (.ifCond .ne 15, 3) := by decide +kernel
theorem dL_law_1117 : decode cL_law 1117 = .ok (.aload_n 3, 1) := by decide +kernel
theorem dL_law_1118 : decode cL_law 1118 = .ok (.iconst 0, 1) := by decide +kernel
theorem dL_law_1119 : decode cL_law 1119 = .ok (.laload, 1) := by decide +kernel
theorem dL_law_1120 : decode cL_law 1120 = .ok (.iload 6, 2) := by decide +kernel
theorem dL_law_1122 : decode cL_law 1122 = .ok (.i2l, 1) := by decide +kernel
theorem dL_law_1123 : decode cL_law 1123 = .ok (.lcmp, 1) := by decide +kernel
theorem dL_law_1124 : decode cL_law 1124 = .ok (.ifCond .eq 5, 3) := by decide +kernel
theorem dL_law_1127 : decode cL_law 1127 = .ok (.iconst 0, 1) := by decide +kernel
theorem dL_law_1128 : decode cL_law 1128 = .ok (.ireturn, 1) := by decide +kernel
theorem dL_law_1129 : decode cL_law 1129 = .ok (.goto 380, 3) := by decide +kernel
theorem dL_law_1132 : decode cL_law 1132 = .ok (.aload_n 1, 1) := by decide +kernel
theorem dL_law_1133 : decode cL_law 1133 = .ok (.aload_n 3, 1) := by decide +kernel
theorem dL_law_1134 : decode cL_law 1134 = .ok (.invokestatic 140, 3) := by decide +kernel
theorem dL_law_1137 : decode cL_law 1137 = .ok (.istore 5, 2) := by decide +kernel
theorem dL_law_1139 : decode cL_law 1139 = .ok (.aload_n 2, 1) := by decide +kernel
theorem dL_law_1140 : decode cL_law 1140 = .ok (.invokevirtual 142, 3) := by decide +kernel
theorem dL_law_1143 : decode cL_law 1143 = .ok (.istore 6, 2) := by decide +kernel
theorem dL_law_1145 : decode cL_law 1145 = .ok (.aload_n 2, 1) := by decide +kernel
theorem dL_law_1146 : decode cL_law 1146 = .ok (.invokevirtual 89, 3) := by decide +kernel
theorem dL_law_1149 : decode cL_law 1149 = .ok (.iload 5, 2) := by decide +kernel
theorem dL_law_1151 : decode cL_law 1151 = .ok (.if_icmp .eq 5, 3) := by decide +kernel
theorem dL_law_1154 : decode cL_law 1154 = .ok (.iconst 0, 1) := by decide +kernel
theorem dL_law_1155 : decode cL_law 1155 = .ok (.ireturn, 1) := by decide +kernel
theorem dL_law_1156 : decode cL_law 1156 = .ok (.iload 5, 2) := by decide +kernel
theorem dL_law_1158 : decode cL_law 1158 = .ok (.ifCond .ne 15, 3) := by decide +kernel
theorem dL_law_1161 : decode cL_law 1161 = .ok (.aload_n 3, 1) := by decide +kernel
theorem dL_law_1162 : decode cL_law 1162 = .ok (.iconst 0, 1) := by decide +kernel
theorem dL_law_1163 : decode cL_law 1163 = .ok (.laload, 1) := by decide +kernel
theorem dL_law_1164 : decode cL_law 1164 = .ok (.iload 6, 2) := by decide +kernel
theorem dL_law_1166 : decode cL_law 1166 = .ok (.i2l, 1) := by decide +kernel
theorem dL_law_1167 : decode cL_law 1167 = .ok (.lcmp, 1) := by decide +kernel
theorem dL_law_1168 : decode cL_law 1168 = .ok (.ifCond .eq 5, 3) := by decide +kernel
theorem dL_law_1171 : decode cL_law 1171 = .ok (.iconst 0, 1) := by decide +kernel
theorem dL_law_1172 : decode cL_law 1172 = .ok (.ireturn, 1) := by decide +kernel
theorem dL_law_1173 : decode cL_law 1173 = .ok (.goto 336, 3) := by decide +kernel
theorem dL_law_1176 : decode cL_law 1176 = .ok (.aload_n 1, 1) := by decide +kernel
theorem dL_law_1177 : decode cL_law 1177 = .ok (.aload_n 3, 1) := by decide +kernel
theorem dL_law_1178 : decode cL_law 1178 = .ok (.invokestatic 143, 3) := by decide +kernel
theorem dL_law_1181 : decode cL_law 1181 = .ok (.istore 5, 2) := by decide +kernel
theorem dL_law_1183 : decode cL_law 1183 = .ok (.aload_n 2, 1) := by decide +kernel
theorem dL_law_1184 : decode cL_law 1184 = .ok (.invokevirtual 145, 3) := by decide +kernel
theorem dL_law_1187 : decode cL_law 1187 = .ok (.istore 6, 2) := by decide +kernel
theorem dL_law_1189 : decode cL_law 1189 = .ok (.aload_n 2, 1) := by decide +kernel
theorem dL_law_1190 : decode cL_law 1190 = .ok (.invokevirtual 89, 3) := by decide +kernel
theorem dL_law_1193 : decode cL_law 1193 = .ok (.iload 5, 2) := by decide +kernel
theorem dL_law_1195 : decode cL_law 1195 = .ok (.if_icmp .eq 5, 3) := by decide +kernel
theorem dL_law_1198 : decode cL_law 1198 = .ok (.iconst 0, 1) := by decide +kernel
theorem dL_law_1199 : decode cL_law 1199 = .ok (.ireturn, 1) := by decide +kernel
theorem dL_law_1200 : decode cL_law 1200 = .ok (.iload 5, 2) := by decide +kernel
theorem dL_law_1202 : decode cL_law 1202 = .ok (.ifCond .ne 15, 3) := by decide +kernel
theorem dL_law_1205 : decode cL_law 1205 = .ok (.aload_n 3, 1) := by decide +kernel
theorem dL_law_1206 : decode cL_law 1206 = .ok (.iconst 0, 1) := by decide +kernel
theorem dL_law_1207 : decode cL_law 1207 = .ok (.laload, 1) := by decide +kernel
theorem dL_law_1208 : decode cL_law 1208 = .ok (.iload 6, 2) := by decide +kernel
theorem dL_law_1210 : decode cL_law 1210 = .ok (.i2l, 1) := by decide +kernel
theorem dL_law_1211 : decode cL_law 1211 = .ok (.lcmp, 1) := by decide +kernel
theorem dL_law_1212 : decode cL_law 1212 = .ok (.ifCond .eq 5, 3) := by decide +kernel
theorem dL_law_1215 : decode cL_law 1215 = .ok (.iconst 0, 1) := by decide +kernel
theorem dL_law_1216 : decode cL_law 1216 = .ok (.ireturn, 1) := by decide +kernel
theorem dL_law_1217 : decode cL_law 1217 = .ok (.goto 292, 3) := by decide +kernel
theorem dL_law_1220 : decode cL_law 1220 = .ok (.aload_n 1, 1) := by decide +kernel
theorem dL_law_1221 : decode cL_law 1221 = .ok (.invokevirtual 146, 3) := by decide +kernel
theorem dL_law_1224 : decode cL_law 1224 = .ok (.aload_n 2, 1) := by decide +kernel
theorem dL_law_1225 : decode cL_law 1225 = .ok (.invokevirtual 149, 3) := by decide +kernel
theorem dL_law_1228 : decode cL_law 1228 = .ok (.if_icmp .eq 281, 3) := by decide +kernel
theorem dL_law_1231 : decode cL_law 1231 = .ok (.iconst 0, 1) := by decide +kernel
theorem dL_law_1232 : decode cL_law 1232 = .ok (.ireturn, 1) := by decide +kernel
theorem dL_law_1233 : decode cL_law 1233 = .ok (.aload_n 1, 1) := by decide +kernel
theorem dL_law_1234 : decode cL_law 1234 = .ok (.invokevirtual 150, 3) := by decide +kernel
theorem dL_law_1237 : decode cL_law 1237 = .ok (.aload_n 2, 1) := by decide +kernel
theorem dL_law_1238 : decode cL_law 1238 = .ok (.invokevirtual 153, 3) := by decide +kernel
theorem dL_law_1241 : decode cL_law 1241 = .ok (.if_icmp .eq 268, 3) := by decide +kernel
theorem dL_law_1244 : decode cL_law 1244 = .ok (.iconst 0, 1) := by decide +kernel
theorem dL_law_1245 : decode cL_law 1245 = .ok (.ireturn, 1) := by decide +kernel
theorem dL_law_1246 : decode cL_law 1246 = .ok (.aload_n 1, 1) := by decide +kernel
theorem dL_law_1247 : decode cL_law 1247 = .ok (.aload_n 0, 1) := by decide +kernel
theorem dL_law_1248 : decode cL_law 1248 = .ok (.iload 4, 2) := by decide +kernel
theorem dL_law_1250 : decode cL_law 1250 = .ok (.iconst 1, 1) := by decide +kernel
theorem dL_law_1251 : decode cL_law 1251 = .ok (.iadd, 1) := by decide +kernel
theorem dL_law_1252 : decode cL_law 1252 = .ok (.iaload, 1) := by decide +kernel
theorem dL_law_1253 : decode cL_law 1253 = .ok (.aload_n 3, 1) := by decide +kernel
theorem dL_law_1254 : decode cL_law 1254 = .ok (.invokestatic 154, 3) := by decide +kernel
theorem dL_law_1257 : decode cL_law 1257 = .ok (.istore 5, 2) := by decide +kernel
theorem dL_law_1259 : decode cL_law 1259 = .ok (.aload_n 2, 1) := by decide +kernel
theorem dL_law_1260 : decode cL_law 1260 = .ok (.aload_n 0, 1) := by decide +kernel
theorem dL_law_1261 : decode cL_law 1261 = .ok (.iload 4, 2) := by decide +kernel
theorem dL_law_1263 : decode cL_law 1263 = .ok (.iconst 1, 1) := by decide +kernel
theorem dL_law_1264 : decode cL_law 1264 = .ok (.iadd, 1) := by decide +kernel
theorem dL_law_1265 : decode cL_law 1265 = .ok (.iaload, 1) := by decide +kernel
theorem dL_law_1266 : decode cL_law 1266 = .ok (.invokevirtual 156, 3) := by decide +kernel
theorem dL_law_1269 : decode cL_law 1269 = .ok (.istore 6, 2) := by decide +kernel
theorem dL_law_1271 : decode cL_law 1271 = .ok (.aload_n 2, 1) := by decide +kernel
theorem dL_law_1272 : decode cL_law 1272 = .ok (.invokevirtual 89, 3) := by decide +kernel
theorem dL_law_1275 : decode cL_law 1275 = .ok (.iload 5, 2) := by decide +kernel
theorem dL_law_1277 : decode cL_law 1277 = .ok (.if_icmp .eq 5, 3) := by decide +kernel
theorem dL_law_1280 : decode cL_law 1280 = .ok (.iconst 0, 1) := by decide +kernel
theorem dL_law_1281 : decode cL_law 1281 = .ok (.ireturn, 1) := by decide +kernel
theorem dL_law_1282 : decode cL_law 1282 = .ok (.iload 5, 2) := by decide +kernel
theorem dL_law_1284 : decode cL_law 1284 = .ok (.ifCond .ne 15, 3) := by decide +kernel
theorem dL_law_1287 : decode cL_law 1287 = .ok (.aload_n 3, 1) := by decide +kernel
theorem dL_law_1288 : decode cL_law 1288 = .ok (.iconst 0, 1) := by decide +kernel
theorem dL_law_1289 : decode cL_law 1289 = .ok (.laload, 1) := by decide +kernel
theorem dL_law_1290 : decode cL_law 1290 = .ok (.iload 6, 2) := by decide +kernel
theorem dL_law_1292 : decode cL_law 1292 = .ok (.i2l, 1) := by decide +kernel
theorem dL_law_1293 : decode cL_law 1293 = .ok (.lcmp, 1) := by decide +kernel
theorem dL_law_1294 : decode cL_law 1294 = .ok (.ifCond .eq 5, 3) := by decide +kernel
theorem dL_law_1297 : decode cL_law 1297 = .ok (.iconst 0, 1) := by decide +kernel
theorem dL_law_1298 : decode cL_law 1298 = .ok (.ireturn, 1) := by decide +kernel
theorem dL_law_1299 : decode cL_law 1299 = .ok (.goto 210, 3) := by decide +kernel
theorem dL_law_1302 : decode cL_law 1302 = .ok (.aload_n 1, 1) := by decide +kernel
theorem dL_law_1303 : decode cL_law 1303 = .ok (.aload_n 0, 1) := by decide +kernel
theorem dL_law_1304 : decode cL_law 1304 = .ok (.iload 4, 2) := by decide +kernel
theorem dL_law_1306 : decode cL_law 1306 = .ok (.iconst 1, 1) := by decide +kernel
theorem dL_law_1307 : decode cL_law 1307 = .ok (.iadd, 1) := by decide +kernel
theorem dL_law_1308 : decode cL_law 1308 = .ok (.iaload, 1) := by decide +kernel
theorem dL_law_1309 : decode cL_law 1309 = .ok (.aload_n 3, 1) := by decide +kernel
theorem dL_law_1310 : decode cL_law 1310 = .ok (.invokestatic 157, 3) := by decide +kernel
theorem dL_law_1313 : decode cL_law 1313 = .ok (.istore 5, 2) := by decide +kernel
theorem dL_law_1315 : decode cL_law 1315 = .ok (.aload_n 2, 1) := by decide +kernel
theorem dL_law_1316 : decode cL_law 1316 = .ok (.aload_n 0, 1) := by decide +kernel
theorem dL_law_1317 : decode cL_law 1317 = .ok (.iload 4, 2) := by decide +kernel
theorem dL_law_1319 : decode cL_law 1319 = .ok (.iconst 1, 1) := by decide +kernel
theorem dL_law_1320 : decode cL_law 1320 = .ok (.iadd, 1) := by decide +kernel
theorem dL_law_1321 : decode cL_law 1321 = .ok (.iaload, 1) := by decide +kernel
theorem dL_law_1322 : decode cL_law 1322 = .ok (.invokevirtual 159, 3) := by decide +kernel
theorem dL_law_1325 : decode cL_law 1325 = .ok (.istore 6, 2) := by decide +kernel
theorem dL_law_1327 : decode cL_law 1327 = .ok (.aload_n 2, 1) := by decide +kernel
theorem dL_law_1328 : decode cL_law 1328 = .ok (.invokevirtual 89, 3) := by decide +kernel
theorem dL_law_1331 : decode cL_law 1331 = .ok (.iload 5, 2) := by decide +kernel
theorem dL_law_1333 : decode cL_law 1333 = .ok (.if_icmp .eq 5, 3) := by decide +kernel
theorem dL_law_1336 : decode cL_law 1336 = .ok (.iconst 0, 1) := by decide +kernel
theorem dL_law_1337 : decode cL_law 1337 = .ok (.ireturn, 1) := by decide +kernel
theorem dL_law_1338 : decode cL_law 1338 = .ok (.iload 5, 2) := by decide +kernel
theorem dL_law_1340 : decode cL_law 1340 = .ok (.ifCond .ne 22, 3) := by decide +kernel
theorem dL_law_1343 : decode cL_law 1343 = .ok (.aload_n 3, 1) := by decide +kernel
theorem dL_law_1344 : decode cL_law 1344 = .ok (.iconst 0, 1) := by decide +kernel
theorem dL_law_1345 : decode cL_law 1345 = .ok (.laload, 1) := by decide +kernel
theorem dL_law_1346 : decode cL_law 1346 = .ok (.iload 6, 2) := by decide +kernel
theorem dL_law_1348 : decode cL_law 1348 = .ok (.ifCond .eq 7, 3) := by decide +kernel
theorem dL_law_1351 : decode cL_law 1351 = .ok (.lconst 1, 1) := by decide +kernel
theorem dL_law_1352 : decode cL_law 1352 = .ok (.goto 4, 3) := by decide +kernel
theorem dL_law_1355 : decode cL_law 1355 = .ok (.lconst 0, 1) := by decide +kernel
theorem dL_law_1356 : decode cL_law 1356 = .ok (.lcmp, 1) := by decide +kernel
theorem dL_law_1357 : decode cL_law 1357 = .ok (.ifCond .eq 5, 3) := by decide +kernel
theorem dL_law_1360 : decode cL_law 1360 = .ok (.iconst 0, 1) := by decide +kernel
theorem dL_law_1361 : decode cL_law 1361 = .ok (.ireturn, 1) := by decide +kernel
theorem dL_law_1362 : decode cL_law 1362 = .ok (.goto 147, 3) := by decide +kernel
theorem dL_law_1365 : decode cL_law 1365 = .ok (.aload_n 1, 1) := by decide +kernel
theorem dL_law_1366 : decode cL_law 1366 = .ok (.aload_n 0, 1) := by decide +kernel
theorem dL_law_1367 : decode cL_law 1367 = .ok (.iload 4, 2) := by decide +kernel
theorem dL_law_1369 : decode cL_law 1369 = .ok (.iconst 1, 1) := by decide +kernel
theorem dL_law_1370 : decode cL_law 1370 = .ok (.iadd, 1) := by decide +kernel
theorem dL_law_1371 : decode cL_law 1371 = .ok (.iaload, 1) := by decide +kernel
theorem dL_law_1372 : decode cL_law 1372 = .ok (.aload_n 0, 1) := by decide +kernel
theorem dL_law_1373 : decode cL_law 1373 = .ok (.iload 4, 2) := by decide +kernel
theorem dL_law_1375 : decode cL_law 1375 = .ok (.iconst 2, 1) := by decide +kernel
theorem dL_law_1376 : decode cL_law 1376 = .ok (.iadd, 1) := by decide +kernel
theorem dL_law_1377 : decode cL_law 1377 = .ok (.iaload, 1) := by decide +kernel
theorem dL_law_1378 : decode cL_law 1378 = .ok (.aload_n 3, 1) := by decide +kernel
theorem dL_law_1379 : decode cL_law 1379 = .ok (.invokestatic 160, 3) := by decide +kernel
theorem dL_law_1382 : decode cL_law 1382 = .ok (.istore 5, 2) := by decide +kernel
theorem dL_law_1384 : decode cL_law 1384 = .ok (.aload_n 2, 1) := by decide +kernel
theorem dL_law_1385 : decode cL_law 1385 = .ok (.aload_n 0, 1) := by decide +kernel
theorem dL_law_1386 : decode cL_law 1386 = .ok (.iload 4, 2) := by decide +kernel
theorem dL_law_1388 : decode cL_law 1388 = .ok (.iconst 1, 1) := by decide +kernel
theorem dL_law_1389 : decode cL_law 1389 = .ok (.iadd, 1) := by decide +kernel
theorem dL_law_1390 : decode cL_law 1390 = .ok (.iaload, 1) := by decide +kernel
theorem dL_law_1391 : decode cL_law 1391 = .ok (.aload_n 0, 1) := by decide +kernel
theorem dL_law_1392 : decode cL_law 1392 = .ok (.iload 4, 2) := by decide +kernel
theorem dL_law_1394 : decode cL_law 1394 = .ok (.iconst 2, 1) := by decide +kernel
theorem dL_law_1395 : decode cL_law 1395 = .ok (.iadd, 1) := by decide +kernel
theorem dL_law_1396 : decode cL_law 1396 = .ok (.iaload, 1) := by decide +kernel
theorem dL_law_1397 : decode cL_law 1397 = .ok (.invokevirtual 162, 3) := by decide +kernel
theorem dL_law_1400 : decode cL_law 1400 = .ok (.istore 6, 2) := by decide +kernel
theorem dL_law_1402 : decode cL_law 1402 = .ok (.aload_n 2, 1) := by decide +kernel
theorem dL_law_1403 : decode cL_law 1403 = .ok (.invokevirtual 89, 3) := by decide +kernel
theorem dL_law_1406 : decode cL_law 1406 = .ok (.iload 5, 2) := by decide +kernel
theorem dL_law_1408 : decode cL_law 1408 = .ok (.if_icmp .eq 5, 3) := by decide +kernel
theorem dL_law_1411 : decode cL_law 1411 = .ok (.iconst 0, 1) := by decide +kernel
theorem dL_law_1412 : decode cL_law 1412 = .ok (.ireturn, 1) := by decide +kernel
theorem dL_law_1413 : decode cL_law 1413 = .ok (.iload 5, 2) := by decide +kernel
theorem dL_law_1415 : decode cL_law 1415 = .ok (.ifCond .ne 15, 3) := by decide +kernel
theorem dL_law_1418 : decode cL_law 1418 = .ok (.aload_n 3, 1) := by decide +kernel
theorem dL_law_1419 : decode cL_law 1419 = .ok (.iconst 0, 1) := by decide +kernel
theorem dL_law_1420 : decode cL_law 1420 = .ok (.laload, 1) := by decide +kernel
theorem dL_law_1421 : decode cL_law 1421 = .ok (.iload 6, 2) := by decide +kernel
theorem dL_law_1423 : decode cL_law 1423 = .ok (.i2l, 1) := by decide +kernel
theorem dL_law_1424 : decode cL_law 1424 = .ok (.lcmp, 1) := by decide +kernel
theorem dL_law_1425 : decode cL_law 1425 = .ok (.ifCond .eq 5, 3) := by decide +kernel
theorem dL_law_1428 : decode cL_law 1428 = .ok (.iconst 0, 1) := by decide +kernel
theorem dL_law_1429 : decode cL_law 1429 = .ok (.ireturn, 1) := by decide +kernel
theorem dL_law_1430 : decode cL_law 1430 = .ok (.goto 79, 3) := by decide +kernel
theorem dL_law_1433 : decode cL_law 1433 = .ok (.aload_n 1, 1) := by decide +kernel
theorem dL_law_1434 : decode cL_law 1434 = .ok (.aload_n 0, 1) := by decide +kernel
theorem dL_law_1435 : decode cL_law 1435 = .ok (.iload 4, 2) := by decide +kernel
theorem dL_law_1437 : decode cL_law 1437 = .ok (.iconst 1, 1) := by decide +kernel
theorem dL_law_1438 : decode cL_law 1438 = .ok (.iadd, 1) := by decide +kernel
theorem dL_law_1439 : decode cL_law 1439 = .ok (.iaload, 1) := by decide +kernel
theorem dL_law_1440 : decode cL_law 1440 = .ok (.invokevirtual 163, 3) := by decide +kernel
theorem dL_law_1443 : decode cL_law 1443 = .ok (.aload_n 2, 1) := by decide +kernel
theorem dL_law_1444 : decode cL_law 1444 = .ok (.aload_n 0, 1) := by decide +kernel
theorem dL_law_1445 : decode cL_law 1445 = .ok (.iload 4, 2) := by decide +kernel
theorem dL_law_1447 : decode cL_law 1447 = .ok (.iconst 1, 1) := by decide +kernel
theorem dL_law_1448 : decode cL_law 1448 = .ok (.iadd, 1) := by decide +kernel
theorem dL_law_1449 : decode cL_law 1449 = .ok (.iaload, 1) := by decide +kernel
theorem dL_law_1450 : decode cL_law 1450 = .ok (.invokevirtual 166, 3) := by decide +kernel
theorem dL_law_1453 : decode cL_law 1453 = .ok (.if_icmp .eq 56, 3) := by decide +kernel
theorem dL_law_1456 : decode cL_law 1456 = .ok (.iconst 0, 1) := by decide +kernel
theorem dL_law_1457 : decode cL_law 1457 = .ok (.ireturn, 1) := by decide +kernel
theorem dL_law_1458 : decode cL_law 1458 = .ok (.aload_n 1, 1) := by decide +kernel
theorem dL_law_1459 : decode cL_law 1459 = .ok (.invokevirtual 167, 3) := by decide +kernel
theorem dL_law_1462 : decode cL_law 1462 = .ok (.aload_n 2, 1) := by decide +kernel
theorem dL_law_1463 : decode cL_law 1463 = .ok (.invokevirtual 170, 3) := by decide +kernel
theorem dL_law_1466 : decode cL_law 1466 = .ok (.if_icmp .eq 43, 3) := by decide +kernel
theorem dL_law_1469 : decode cL_law 1469 = .ok (.iconst 0, 1) := by decide +kernel
theorem dL_law_1470 : decode cL_law 1470 = .ok (.ireturn, 1) := by decide +kernel
theorem dL_law_1471 : decode cL_law 1471 = .ok (.aload_n 1, 1) := by decide +kernel
theorem dL_law_1472 : decode cL_law 1472 = .ok (.invokevirtual 171, 3) := by decide +kernel
theorem dL_law_1475 : decode cL_law 1475 = .ok (.aload_n 2, 1) := by decide +kernel
theorem dL_law_1476 : decode cL_law 1476 = .ok (.invokevirtual 174, 3) := by decide +kernel
theorem dL_law_1479 : decode cL_law 1479 = .ok (.if_icmp .eq 30, 3) := by decide +kernel
theorem dL_law_1482 : decode cL_law 1482 = .ok (.iconst 0, 1) := by decide +kernel
theorem dL_law_1483 : decode cL_law 1483 = .ok (.ireturn, 1) := by decide +kernel
theorem dL_law_1484 : decode cL_law 1484 = .ok (.aload_n 1, 1) := by decide +kernel
theorem dL_law_1485 : decode cL_law 1485 = .ok (.aload_n 0, 1) := by decide +kernel
theorem dL_law_1486 : decode cL_law 1486 = .ok (.iload 4, 2) := by decide +kernel
theorem dL_law_1488 : decode cL_law 1488 = .ok (.iconst 1, 1) := by decide +kernel
theorem dL_law_1489 : decode cL_law 1489 = .ok (.iadd, 1) := by decide +kernel
theorem dL_law_1490 : decode cL_law 1490 = .ok (.iaload, 1) := by decide +kernel
theorem dL_law_1491 : decode cL_law 1491 = .ok (.invokevirtual 175, 3) := by decide +kernel
theorem dL_law_1494 : decode cL_law 1494 = .ok (.aload_n 2, 1) := by decide +kernel
theorem dL_law_1495 : decode cL_law 1495 = .ok (.aload_n 0, 1) := by decide +kernel
theorem dL_law_1496 : decode cL_law 1496 = .ok (.iload 4, 2) := by decide +kernel
theorem dL_law_1498 : decode cL_law 1498 = .ok (.iconst 1, 1) := by decide +kernel
theorem dL_law_1499 : decode cL_law 1499 = .ok (.iadd, 1) := by decide +kernel
theorem dL_law_1500 : decode cL_law 1500 = .ok (.iaload, 1) := by decide +kernel
theorem dL_law_1501 : decode cL_law 1501 = .ok (.invokevirtual 178, 3) := by decide +kernel
theorem dL_law_1504 : decode cL_law 1504 = .ok (.if_icmp .eq 5, 3) := by decide +kernel
theorem dL_law_1507 : decode cL_law 1507 = .ok (.iconst 0, 1) := by decide +kernel
theorem dL_law_1508 : decode cL_law 1508 = .ok (.ireturn, 1) := by decide +kernel
theorem dL_law_1509 : decode cL_law 1509 = .ok (.iinc 4 5, 3) := by decide +kernel
theorem dL_law_1512 : decode cL_law 1512 = .ok (.goto (-1489), 3) := by decide +kernel
theorem dL_law_1515 : decode cL_law 1515 = .ok (.iconst 1, 1) := by decide +kernel
theorem dL_law_1516 : decode cL_law 1516 = .ok (.ireturn, 1) := by decide +kernel
