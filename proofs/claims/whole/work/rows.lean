section
-- ===== PART A: goes FIRST, ahead of the names: the tables' words, and 'selects' of the private methods out of them =====
/-- a private method of a class that the tables say can be made, by its rows of tables_1 -/
def lw_okq (q : MethodName × Nat) : Prop := (q.1.cls ≠ "java/lang/invoke/MethodHandle" ∧ q.1.cls ≠ "java/lang/invoke/VarHandle") ∧ Cond.instantiable q.1.cls q.2 ∈ tables_1 ∧ Cond.privateMethod q.1 ∈ tables_1 ∧ Cond.instanceMethod q.1 ∈ tables_1
theorem lw_p0 : lw_okq (⟨"ComponentContainer", "closeInnermostScope", "()I"⟩, 7) := ⟨⟨by decide +kernel, by decide +kernel⟩, List.mem_of_getElem? (i := 15) (by decide +kernel), List.mem_of_getElem? (i := 156) (by decide +kernel), List.mem_of_getElem? (i := 157) (by decide +kernel)⟩
theorem lw_p1 : lw_okq (⟨"ComponentContainer$Ledger", "destroyFrom", "(II)I"⟩, 10) := ⟨⟨by decide +kernel, by decide +kernel⟩, List.mem_of_getElem? (i := 52) (by decide +kernel), List.mem_of_getElem? (i := 164) (by decide +kernel), List.mem_of_getElem? (i := 165) (by decide +kernel)⟩
theorem lw_p2 : lw_okq (⟨"ComponentContainer$Ledger", "destroy", "(I)V"⟩, 10) := ⟨⟨by decide +kernel, by decide +kernel⟩, List.mem_of_getElem? (i := 52) (by decide +kernel), List.mem_of_getElem? (i := 168) (by decide +kernel), List.mem_of_getElem? (i := 169) (by decide +kernel)⟩
theorem lw_p3 : lw_okq (⟨"ComponentContainer$Ledger", "recordEvent", "(I)V"⟩, 10) := ⟨⟨by decide +kernel, by decide +kernel⟩, List.mem_of_getElem? (i := 52) (by decide +kernel), List.mem_of_getElem? (i := 172) (by decide +kernel), List.mem_of_getElem? (i := 173) (by decide +kernel)⟩
theorem lw_p4 : lw_okq (⟨"java/lang/Throwable", "fillInStackTrace", "(I)Ljava/lang/Throwable;"⟩, 6) := ⟨⟨by decide +kernel, by decide +kernel⟩, List.mem_of_getElem? (i := 253) (by decide +kernel), List.mem_of_getElem? (i := 251) (by decide +kernel), List.mem_of_getElem? (i := 252) (by decide +kernel)⟩
theorem lw_p5 : lw_okq (⟨"ComponentContainer", "requireComponent", "(I)V"⟩, 7) := ⟨⟨by decide +kernel, by decide +kernel⟩, List.mem_of_getElem? (i := 15) (by decide +kernel), List.mem_of_getElem? (i := 311) (by decide +kernel), List.mem_of_getElem? (i := 312) (by decide +kernel)⟩
theorem lw_p6 : lw_okq (⟨"ComponentContainer", "requireProperty", "(I)V"⟩, 7) := ⟨⟨by decide +kernel, by decide +kernel⟩, List.mem_of_getElem? (i := 15) (by decide +kernel), List.mem_of_getElem? (i := 331) (by decide +kernel), List.mem_of_getElem? (i := 332) (by decide +kernel)⟩
theorem lw_p7 : lw_okq (⟨"ComponentContainer", "requireTypeAndQualifier", "(II)V"⟩, 7) := ⟨⟨by decide +kernel, by decide +kernel⟩, List.mem_of_getElem? (i := 15) (by decide +kernel), List.mem_of_getElem? (i := 351) (by decide +kernel), List.mem_of_getElem? (i := 352) (by decide +kernel)⟩
theorem lw_p8 : lw_okq (⟨"ComponentContainer", "tryConstruction", "(II)I"⟩, 7) := ⟨⟨by decide +kernel, by decide +kernel⟩, List.mem_of_getElem? (i := 15) (by decide +kernel), List.mem_of_getElem? (i := 445) (by decide +kernel), List.mem_of_getElem? (i := 446) (by decide +kernel)⟩
theorem lw_p9 : lw_okq (⟨"ComponentContainer", "tryDependency", "(III)I"⟩, 7) := ⟨⟨by decide +kernel, by decide +kernel⟩, List.mem_of_getElem? (i := 15) (by decide +kernel), List.mem_of_getElem? (i := 449) (by decide +kernel), List.mem_of_getElem? (i := 450) (by decide +kernel)⟩
theorem lw_p10 : lw_okq (⟨"ComponentContainer", "tryEach", "(II)I"⟩, 7) := ⟨⟨by decide +kernel, by decide +kernel⟩, List.mem_of_getElem? (i := 15) (by decide +kernel), List.mem_of_getElem? (i := 459) (by decide +kernel), List.mem_of_getElem? (i := 460) (by decide +kernel)⟩
theorem lw_p11 : lw_okq (⟨"ComponentContainer", "requestOrThrow", "(II)I"⟩, 7) := ⟨⟨by decide +kernel, by decide +kernel⟩, List.mem_of_getElem? (i := 15) (by decide +kernel), List.mem_of_getElem? (i := 492) (by decide +kernel), List.mem_of_getElem? (i := 493) (by decide +kernel)⟩
theorem lw_p12 : lw_okq (⟨"ComponentContainer", "request", "(III)I"⟩, 7) := ⟨⟨by decide +kernel, by decide +kernel⟩, List.mem_of_getElem? (i := 15) (by decide +kernel), List.mem_of_getElem? (i := 496) (by decide +kernel), List.mem_of_getElem? (i := 497) (by decide +kernel)⟩
theorem lw_p13 : lw_okq (⟨"ComponentContainer", "recordFailure", "(III)I"⟩, 7) := ⟨⟨by decide +kernel, by decide +kernel⟩, List.mem_of_getElem? (i := 15) (by decide +kernel), List.mem_of_getElem? (i := 500) (by decide +kernel), List.mem_of_getElem? (i := 501) (by decide +kernel)⟩
theorem lw_p14 : lw_okq (⟨"ComponentContainer", "obtain", "(II)I"⟩, 7) := ⟨⟨by decide +kernel, by decide +kernel⟩, List.mem_of_getElem? (i := 15) (by decide +kernel), List.mem_of_getElem? (i := 511) (by decide +kernel), List.mem_of_getElem? (i := 512) (by decide +kernel)⟩
theorem lw_p15 : lw_okq (⟨"ComponentContainer", "construct", "(III)I"⟩, 7) := ⟨⟨by decide +kernel, by decide +kernel⟩, List.mem_of_getElem? (i := 15) (by decide +kernel), List.mem_of_getElem? (i := 515) (by decide +kernel), List.mem_of_getElem? (i := 516) (by decide +kernel)⟩
def lw_privs_1 : List (MethodName × Nat) := [(⟨"ComponentContainer", "closeInnermostScope", "()I"⟩, 7), (⟨"ComponentContainer$Ledger", "destroyFrom", "(II)I"⟩, 10), (⟨"ComponentContainer$Ledger", "destroy", "(I)V"⟩, 10), (⟨"ComponentContainer$Ledger", "recordEvent", "(I)V"⟩, 10), (⟨"java/lang/Throwable", "fillInStackTrace", "(I)Ljava/lang/Throwable;"⟩, 6), (⟨"ComponentContainer", "requireComponent", "(I)V"⟩, 7), (⟨"ComponentContainer", "requireProperty", "(I)V"⟩, 7), (⟨"ComponentContainer", "requireTypeAndQualifier", "(II)V"⟩, 7), (⟨"ComponentContainer", "tryConstruction", "(II)I"⟩, 7), (⟨"ComponentContainer", "tryDependency", "(III)I"⟩, 7), (⟨"ComponentContainer", "tryEach", "(II)I"⟩, 7), (⟨"ComponentContainer", "requestOrThrow", "(II)I"⟩, 7), (⟨"ComponentContainer", "request", "(III)I"⟩, 7), (⟨"ComponentContainer", "recordFailure", "(III)I"⟩, 7), (⟨"ComponentContainer", "obtain", "(II)I"⟩, 7), (⟨"ComponentContainer", "construct", "(III)I"⟩, 7)]
theorem lw_r1 : ∀ q ∈ lw_privs_1, lw_okq q := List.forall_mem_cons.mpr ⟨lw_p0, List.forall_mem_cons.mpr ⟨lw_p1, List.forall_mem_cons.mpr ⟨lw_p2, List.forall_mem_cons.mpr ⟨lw_p3, List.forall_mem_cons.mpr ⟨lw_p4, List.forall_mem_cons.mpr ⟨lw_p5, List.forall_mem_cons.mpr ⟨lw_p6, List.forall_mem_cons.mpr ⟨lw_p7, List.forall_mem_cons.mpr ⟨lw_p8, List.forall_mem_cons.mpr ⟨lw_p9, List.forall_mem_cons.mpr ⟨lw_p10, List.forall_mem_cons.mpr ⟨lw_p11, List.forall_mem_cons.mpr ⟨lw_p12, List.forall_mem_cons.mpr ⟨lw_p13, List.forall_mem_cons.mpr ⟨lw_p14, List.forall_mem_cons.mpr ⟨lw_p15, fun _ h => absurd h List.not_mem_nil⟩⟩⟩⟩⟩⟩⟩⟩⟩⟩⟩⟩⟩⟩⟩⟩
theorem lw_p16 : lw_okq (⟨"ComponentContainer", "isUnderConstruction", "(II)Z"⟩, 7) := ⟨⟨by decide +kernel, by decide +kernel⟩, List.mem_of_getElem? (i := 15) (by decide +kernel), List.mem_of_getElem? (i := 519) (by decide +kernel), List.mem_of_getElem? (i := 520) (by decide +kernel)⟩
theorem lw_p17 : lw_okq (⟨"ComponentContainer", "inject", "(III)I"⟩, 7) := ⟨⟨by decide +kernel, by decide +kernel⟩, List.mem_of_getElem? (i := 15) (by decide +kernel), List.mem_of_getElem? (i := 523) (by decide +kernel), List.mem_of_getElem? (i := 524) (by decide +kernel)⟩
theorem lw_p18 : lw_okq (⟨"ComponentContainer", "obtainEach", "(II)I"⟩, 7) := ⟨⟨by decide +kernel, by decide +kernel⟩, List.mem_of_getElem? (i := 15) (by decide +kernel), List.mem_of_getElem? (i := 527) (by decide +kernel), List.mem_of_getElem? (i := 528) (by decide +kernel)⟩
theorem lw_p19 : lw_okq (⟨"ComponentContainer", "complete", "(III)I"⟩, 7) := ⟨⟨by decide +kernel, by decide +kernel⟩, List.mem_of_getElem? (i := 15) (by decide +kernel), List.mem_of_getElem? (i := 531) (by decide +kernel), List.mem_of_getElem? (i := 532) (by decide +kernel)⟩
theorem lw_p20 : lw_okq (⟨"ComponentContainer", "requireInstance", "(I)V"⟩, 7) := ⟨⟨by decide +kernel, by decide +kernel⟩, List.mem_of_getElem? (i := 15) (by decide +kernel), List.mem_of_getElem? (i := 552) (by decide +kernel), List.mem_of_getElem? (i := 553) (by decide +kernel)⟩
theorem lw_p21 : lw_okq (⟨"ComponentContainerModel", "isComponent", "(I)Z"⟩, 33) := ⟨⟨by decide +kernel, by decide +kernel⟩, List.mem_of_getElem? (i := 613) (by decide +kernel), List.mem_of_getElem? (i := 735) (by decide +kernel), List.mem_of_getElem? (i := 736) (by decide +kernel)⟩
theorem lw_p22 : lw_okq (⟨"ComponentContainerModel", "of", "(II)I"⟩, 33) := ⟨⟨by decide +kernel, by decide +kernel⟩, List.mem_of_getElem? (i := 613) (by decide +kernel), List.mem_of_getElem? (i := 742) (by decide +kernel), List.mem_of_getElem? (i := 743) (by decide +kernel)⟩
theorem lw_p23 : lw_okq (⟨"ComponentContainerModel", "dependAt", "(III)I"⟩, 33) := ⟨⟨by decide +kernel, by decide +kernel⟩, List.mem_of_getElem? (i := 613) (by decide +kernel), List.mem_of_getElem? (i := 765) (by decide +kernel), List.mem_of_getElem? (i := 766) (by decide +kernel)⟩
theorem lw_p24 : lw_okq (⟨"ComponentContainerModel", "candidatesFor", "(II)I"⟩, 33) := ⟨⟨by decide +kernel, by decide +kernel⟩, List.mem_of_getElem? (i := 613) (by decide +kernel), List.mem_of_getElem? (i := 781) (by decide +kernel), List.mem_of_getElem? (i := 782) (by decide +kernel)⟩
theorem lw_p25 : lw_okq (⟨"ComponentContainerModel", "isActive", "(I)Z"⟩, 33) := ⟨⟨by decide +kernel, by decide +kernel⟩, List.mem_of_getElem? (i := 613) (by decide +kernel), List.mem_of_getElem? (i := 785) (by decide +kernel), List.mem_of_getElem? (i := 786) (by decide +kernel)⟩
theorem lw_p26 : lw_okq (⟨"ComponentContainerModel", "choose", "(II)I"⟩, 33) := ⟨⟨by decide +kernel, by decide +kernel⟩, List.mem_of_getElem? (i := 613) (by decide +kernel), List.mem_of_getElem? (i := 793) (by decide +kernel), List.mem_of_getElem? (i := 794) (by decide +kernel)⟩
theorem lw_p27 : lw_okq (⟨"ComponentContainerModel", "push", "(I)V"⟩, 33) := ⟨⟨by decide +kernel, by decide +kernel⟩, List.mem_of_getElem? (i := 613) (by decide +kernel), List.mem_of_getElem? (i := 807) (by decide +kernel), List.mem_of_getElem? (i := 808) (by decide +kernel)⟩
theorem lw_p28 : lw_okq (⟨"ComponentContainerModel", "wouldGoOn", "()I"⟩, 33) := ⟨⟨by decide +kernel, by decide +kernel⟩, List.mem_of_getElem? (i := 613) (by decide +kernel), List.mem_of_getElem? (i := 811) (by decide +kernel), List.mem_of_getElem? (i := 812) (by decide +kernel)⟩
theorem lw_p29 : lw_okq (⟨"ComponentContainerModel", "isInFrames", "(I)Z"⟩, 33) := ⟨⟨by decide +kernel, by decide +kernel⟩, List.mem_of_getElem? (i := 613) (by decide +kernel), List.mem_of_getElem? (i := 815) (by decide +kernel), List.mem_of_getElem? (i := 816) (by decide +kernel)⟩
theorem lw_p30 : lw_okq (⟨"ComponentContainerModel", "wanted", "(II)I"⟩, 33) := ⟨⟨by decide +kernel, by decide +kernel⟩, List.mem_of_getElem? (i := 613) (by decide +kernel), List.mem_of_getElem? (i := 819) (by decide +kernel), List.mem_of_getElem? (i := 820) (by decide +kernel)⟩
theorem lw_p31 : lw_okq (⟨"ComponentContainerModel", "directly", "(I)I"⟩, 33) := ⟨⟨by decide +kernel, by decide +kernel⟩, List.mem_of_getElem? (i := 613) (by decide +kernel), List.mem_of_getElem? (i := 827) (by decide +kernel), List.mem_of_getElem? (i := 828) (by decide +kernel)⟩
def lw_privs_2 : List (MethodName × Nat) := [(⟨"ComponentContainer", "isUnderConstruction", "(II)Z"⟩, 7), (⟨"ComponentContainer", "inject", "(III)I"⟩, 7), (⟨"ComponentContainer", "obtainEach", "(II)I"⟩, 7), (⟨"ComponentContainer", "complete", "(III)I"⟩, 7), (⟨"ComponentContainer", "requireInstance", "(I)V"⟩, 7), (⟨"ComponentContainerModel", "isComponent", "(I)Z"⟩, 33), (⟨"ComponentContainerModel", "of", "(II)I"⟩, 33), (⟨"ComponentContainerModel", "dependAt", "(III)I"⟩, 33), (⟨"ComponentContainerModel", "candidatesFor", "(II)I"⟩, 33), (⟨"ComponentContainerModel", "isActive", "(I)Z"⟩, 33), (⟨"ComponentContainerModel", "choose", "(II)I"⟩, 33), (⟨"ComponentContainerModel", "push", "(I)V"⟩, 33), (⟨"ComponentContainerModel", "wouldGoOn", "()I"⟩, 33), (⟨"ComponentContainerModel", "isInFrames", "(I)Z"⟩, 33), (⟨"ComponentContainerModel", "wanted", "(II)I"⟩, 33), (⟨"ComponentContainerModel", "directly", "(I)I"⟩, 33)]
theorem lw_r2 : ∀ q ∈ lw_privs_2, lw_okq q := List.forall_mem_cons.mpr ⟨lw_p16, List.forall_mem_cons.mpr ⟨lw_p17, List.forall_mem_cons.mpr ⟨lw_p18, List.forall_mem_cons.mpr ⟨lw_p19, List.forall_mem_cons.mpr ⟨lw_p20, List.forall_mem_cons.mpr ⟨lw_p21, List.forall_mem_cons.mpr ⟨lw_p22, List.forall_mem_cons.mpr ⟨lw_p23, List.forall_mem_cons.mpr ⟨lw_p24, List.forall_mem_cons.mpr ⟨lw_p25, List.forall_mem_cons.mpr ⟨lw_p26, List.forall_mem_cons.mpr ⟨lw_p27, List.forall_mem_cons.mpr ⟨lw_p28, List.forall_mem_cons.mpr ⟨lw_p29, List.forall_mem_cons.mpr ⟨lw_p30, List.forall_mem_cons.mpr ⟨lw_p31, fun _ h => absurd h List.not_mem_nil⟩⟩⟩⟩⟩⟩⟩⟩⟩⟩⟩⟩⟩⟩⟩⟩
theorem lw_p32 : lw_okq (⟨"ComponentContainerModel", "request", "(II)I"⟩, 33) := ⟨⟨by decide +kernel, by decide +kernel⟩, List.mem_of_getElem? (i := 613) (by decide +kernel), List.mem_of_getElem? (i := 835) (by decide +kernel), List.mem_of_getElem? (i := 836) (by decide +kernel)⟩
theorem lw_p33 : lw_okq (⟨"ComponentContainerModel", "clean", "()V"⟩, 33) := ⟨⟨by decide +kernel, by decide +kernel⟩, List.mem_of_getElem? (i := 613) (by decide +kernel), List.mem_of_getElem? (i := 839) (by decide +kernel), List.mem_of_getElem? (i := 840) (by decide +kernel)⟩
theorem lw_p34 : lw_okq (⟨"ComponentContainerModel", "fail", "(II)V"⟩, 33) := ⟨⟨by decide +kernel, by decide +kernel⟩, List.mem_of_getElem? (i := 613) (by decide +kernel), List.mem_of_getElem? (i := 843) (by decide +kernel), List.mem_of_getElem? (i := 844) (by decide +kernel)⟩
theorem lw_p35 : lw_okq (⟨"ComponentContainerModel", "make", "(I)V"⟩, 33) := ⟨⟨by decide +kernel, by decide +kernel⟩, List.mem_of_getElem? (i := 613) (by decide +kernel), List.mem_of_getElem? (i := 847) (by decide +kernel), List.mem_of_getElem? (i := 848) (by decide +kernel)⟩
theorem lw_p36 : lw_okq (⟨"ComponentContainerModel", "obtain", "(I)V"⟩, 33) := ⟨⟨by decide +kernel, by decide +kernel⟩, List.mem_of_getElem? (i := 613) (by decide +kernel), List.mem_of_getElem? (i := 851) (by decide +kernel), List.mem_of_getElem? (i := 852) (by decide +kernel)⟩
theorem lw_p37 : lw_okq (⟨"ComponentContainerModel", "living", "(II)I"⟩, 33) := ⟨⟨by decide +kernel, by decide +kernel⟩, List.mem_of_getElem? (i := 613) (by decide +kernel), List.mem_of_getElem? (i := 855) (by decide +kernel), List.mem_of_getElem? (i := 856) (by decide +kernel)⟩
theorem lw_p38 : lw_okq (⟨"ComponentContainerModel", "construct", "(II)V"⟩, 33) := ⟨⟨by decide +kernel, by decide +kernel⟩, List.mem_of_getElem? (i := 613) (by decide +kernel), List.mem_of_getElem? (i := 859) (by decide +kernel), List.mem_of_getElem? (i := 860) (by decide +kernel)⟩
theorem lw_p39 : lw_okq (⟨"ComponentContainerModel", "goOn", "()V"⟩, 33) := ⟨⟨by decide +kernel, by decide +kernel⟩, List.mem_of_getElem? (i := 613) (by decide +kernel), List.mem_of_getElem? (i := 863) (by decide +kernel), List.mem_of_getElem? (i := 864) (by decide +kernel)⟩
theorem lw_p40 : lw_okq (⟨"ComponentContainerModel", "receive", "(I)V"⟩, 33) := ⟨⟨by decide +kernel, by decide +kernel⟩, List.mem_of_getElem? (i := 613) (by decide +kernel), List.mem_of_getElem? (i := 867) (by decide +kernel), List.mem_of_getElem? (i := 868) (by decide +kernel)⟩
theorem lw_p41 : lw_okq (⟨"ComponentContainerModel", "inject", "(II)V"⟩, 33) := ⟨⟨by decide +kernel, by decide +kernel⟩, List.mem_of_getElem? (i := 613) (by decide +kernel), List.mem_of_getElem? (i := 871) (by decide +kernel), List.mem_of_getElem? (i := 872) (by decide +kernel)⟩
theorem lw_p42 : lw_okq (⟨"ComponentContainerModel", "complete", "(I)V"⟩, 33) := ⟨⟨by decide +kernel, by decide +kernel⟩, List.mem_of_getElem? (i := 613) (by decide +kernel), List.mem_of_getElem? (i := 875) (by decide +kernel), List.mem_of_getElem? (i := 876) (by decide +kernel)⟩
theorem lw_p43 : lw_okq (⟨"ComponentContainerModel", "note", "(I)V"⟩, 33) := ⟨⟨by decide +kernel, by decide +kernel⟩, List.mem_of_getElem? (i := 613) (by decide +kernel), List.mem_of_getElem? (i := 879) (by decide +kernel), List.mem_of_getElem? (i := 880) (by decide +kernel)⟩
theorem lw_p44 : lw_okq (⟨"ComponentContainerModel", "serve", "(I)V"⟩, 33) := ⟨⟨by decide +kernel, by decide +kernel⟩, List.mem_of_getElem? (i := 613) (by decide +kernel), List.mem_of_getElem? (i := 883) (by decide +kernel), List.mem_of_getElem? (i := 884) (by decide +kernel)⟩
theorem lw_p45 : lw_okq (⟨"ComponentContainerModel", "settle", "(I)Z"⟩, 33) := ⟨⟨by decide +kernel, by decide +kernel⟩, List.mem_of_getElem? (i := 613) (by decide +kernel), List.mem_of_getElem? (i := 887) (by decide +kernel), List.mem_of_getElem? (i := 888) (by decide +kernel)⟩
theorem lw_p46 : lw_okq (⟨"ComponentContainerModel", "destroy", "(I)V"⟩, 33) := ⟨⟨by decide +kernel, by decide +kernel⟩, List.mem_of_getElem? (i := 613) (by decide +kernel), List.mem_of_getElem? (i := 891) (by decide +kernel), List.mem_of_getElem? (i := 892) (by decide +kernel)⟩
theorem lw_p47 : lw_okq (⟨"ComponentContainerModel", "isInstance", "(I)Z"⟩, 33) := ⟨⟨by decide +kernel, by decide +kernel⟩, List.mem_of_getElem? (i := 613) (by decide +kernel), List.mem_of_getElem? (i := 899) (by decide +kernel), List.mem_of_getElem? (i := 900) (by decide +kernel)⟩
def lw_privs_3 : List (MethodName × Nat) := [(⟨"ComponentContainerModel", "request", "(II)I"⟩, 33), (⟨"ComponentContainerModel", "clean", "()V"⟩, 33), (⟨"ComponentContainerModel", "fail", "(II)V"⟩, 33), (⟨"ComponentContainerModel", "make", "(I)V"⟩, 33), (⟨"ComponentContainerModel", "obtain", "(I)V"⟩, 33), (⟨"ComponentContainerModel", "living", "(II)I"⟩, 33), (⟨"ComponentContainerModel", "construct", "(II)V"⟩, 33), (⟨"ComponentContainerModel", "goOn", "()V"⟩, 33), (⟨"ComponentContainerModel", "receive", "(I)V"⟩, 33), (⟨"ComponentContainerModel", "inject", "(II)V"⟩, 33), (⟨"ComponentContainerModel", "complete", "(I)V"⟩, 33), (⟨"ComponentContainerModel", "note", "(I)V"⟩, 33), (⟨"ComponentContainerModel", "serve", "(I)V"⟩, 33), (⟨"ComponentContainerModel", "settle", "(I)Z"⟩, 33), (⟨"ComponentContainerModel", "destroy", "(I)V"⟩, 33), (⟨"ComponentContainerModel", "isInstance", "(I)Z"⟩, 33)]
theorem lw_r3 : ∀ q ∈ lw_privs_3, lw_okq q := List.forall_mem_cons.mpr ⟨lw_p32, List.forall_mem_cons.mpr ⟨lw_p33, List.forall_mem_cons.mpr ⟨lw_p34, List.forall_mem_cons.mpr ⟨lw_p35, List.forall_mem_cons.mpr ⟨lw_p36, List.forall_mem_cons.mpr ⟨lw_p37, List.forall_mem_cons.mpr ⟨lw_p38, List.forall_mem_cons.mpr ⟨lw_p39, List.forall_mem_cons.mpr ⟨lw_p40, List.forall_mem_cons.mpr ⟨lw_p41, List.forall_mem_cons.mpr ⟨lw_p42, List.forall_mem_cons.mpr ⟨lw_p43, List.forall_mem_cons.mpr ⟨lw_p44, List.forall_mem_cons.mpr ⟨lw_p45, List.forall_mem_cons.mpr ⟨lw_p46, List.forall_mem_cons.mpr ⟨lw_p47, fun _ h => absurd h List.not_mem_nil⟩⟩⟩⟩⟩⟩⟩⟩⟩⟩⟩⟩⟩⟩⟩⟩
theorem lw_p48 : lw_okq (⟨"ComponentContainerModel", "isLater", "(II)Z"⟩, 33) := ⟨⟨by decide +kernel, by decide +kernel⟩, List.mem_of_getElem? (i := 613) (by decide +kernel), List.mem_of_getElem? (i := 903) (by decide +kernel), List.mem_of_getElem? (i := 904) (by decide +kernel)⟩
theorem lw_p49 : lw_okq (⟨"ComponentContainerModel", "endScope", "()I"⟩, 33) := ⟨⟨by decide +kernel, by decide +kernel⟩, List.mem_of_getElem? (i := 613) (by decide +kernel), List.mem_of_getElem? (i := 919) (by decide +kernel), List.mem_of_getElem? (i := 920) (by decide +kernel)⟩
def lw_privs_4 : List (MethodName × Nat) := [(⟨"ComponentContainerModel", "isLater", "(II)Z"⟩, 33), (⟨"ComponentContainerModel", "endScope", "()I"⟩, 33)]
theorem lw_r4 : ∀ q ∈ lw_privs_4, lw_okq q := List.forall_mem_cons.mpr ⟨lw_p48, List.forall_mem_cons.mpr ⟨lw_p49, fun _ h => absurd h List.not_mem_nil⟩⟩
def lw_privs : List (MethodName × Nat) := lw_privs_1 ++ (lw_privs_2 ++ (lw_privs_3 ++ (lw_privs_4)))
def lw_tbl : List Cond := k2_sels lw_privs ++ tables_1
theorem lw_privs_ok : ∀ q ∈ lw_privs, lw_okq q := by
  show ∀ q ∈ lw_privs_1 ++ (lw_privs_2 ++ (lw_privs_3 ++ (lw_privs_4))), lw_okq q
  exact List.forall_mem_append.mpr ⟨lw_r1, List.forall_mem_append.mpr ⟨lw_r2, List.forall_mem_append.mpr ⟨lw_r3, lw_r4⟩⟩⟩

/-! ===== BEGIN words of one list among another's, by their places ===== -/
theorem goodIn_r {big : List Cond} (ws : List Cond) (ps : List Nat) (hp : ws = ps.filterMap (fun i => big[i]?)) (h : ws.all goodWord = true) : GoodIn big ws := by
  intro w hw
  have h1 := List.all_eq_true.mp h w hw
  rw [hp] at hw
  obtain ⟨i, -, hi⟩ := List.mem_filterMap.mp hw
  have hm : w ∈ big := by first | exact List.mem_of_getElem? hi | exact List.getElem?_mem hi
  exact ⟨hm, good_of_word h1⟩
theorem goodIn_app {big a b : List Cond} (ha : GoodIn big a) (hb : GoodIn big b) : GoodIn big (a ++ b) := fun w h => (List.mem_append.mp h).elim (ha w) (hb w)
theorem goodIn_ca {big a b : List Cond} {c : Cond} (ha : GoodIn big (c :: a)) (hb : GoodIn big b) : GoodIn big (c :: (a ++ b)) := fun w h => (List.mem_cons.mp h).elim (fun e => ha w (List.mem_cons.mpr (Or.inl e))) (fun h => (List.mem_append.mp h).elim (fun h => ha w (List.mem_cons.mpr (Or.inr h))) (hb w))
theorem goodIn_sub {big ws : List Cond} (hm : ∀ w ∈ ws, w ∈ big) (h : ws.all goodWord = true) : GoodIn big ws := fun w hw => ⟨hm w hw, good_of_word (List.all_eq_true.mp h w hw)⟩
/-! ===== END ===== -/



/-! ===== BEGIN exceptions that leave a method, and their catching by the caller (launches without stack traces) ===== -/
section VXA
/-! The laws vx_back, vx_callV, vx_callS, vx_callSW, vx_throw0, vx_throwS follow proofs of the library, with one case more: JvmDerived/Free/Laws.lean (Back.of_free), Shelf42/LK1.lean (callV, callS), Shelf/KitTraced.lean (throwNew0V, throwNewS). -/
/-- where a method has thrown q: the class by its name, the cell, what was written, the world -/
def vx_T (XC : String → State → State → Prop) (st : State) (q : Addr) (t : State) (mc ms : Nat) (free : Addr → Prop) : Prop :=
  ∃ (E : String) (ce : Cell) (L : List Loc), XC E st t ∧ t.heap[q]? = some ce ∧ ce.vm = .none ∧ st.vm.findClass E = some ce.cls ∧ st.WarmedH t.vm ∧ st.sameButNew ({ t with vm := st.vm } : State) L mc ms ∧ ∀ z ∈ L, free z.base
def vx_Q (Qc : Array Value → State → Outcome → State → Prop) (XC : String → State → State → Prop) (mc ms : Nat) (free : Addr → Prop) : Array Value → State → Outcome → State → Prop := fun a st o t =>
  (Qc a st o t ∧ ∃ L, FrameEnd st o t L mc ms ∧ ∀ q ∈ L, free q.base) ∨ ∃ q, o = .threw q ∧ vx_T XC st q t mc ms free
/-- a callee that returns or throws -/
def vx_Met (l : Launch) (y : MethodName) (ws : List Cond) (rm : Room) (Pc : Array Value → State → Prop) (Qc : Array Value → State → Outcome → State → Prop) (XC : String → State → State → Prop) (mc ms : Nat) (free : Addr → Prop) : Prop :=
  MetFree l y (headSpec ws rm) Pc (fun _ _ _ _ _ => True) (vx_Q Qc XC mc ms free)
def vx_Post (XC : String → State → State → Prop) (mc ms : Nat) (free : Addr → Prop) : Pt → Array Value → Addr → Pt → Prop := fun A a q B =>
  ∃ (g : JFrame) (mk : MethodId) (t : State) (L : List Loc) (E : String) (ce : Cell), B.U.heap = t.heap ∧ B.U.vm = t.vm ∧ XC E (A.U.calling g mk a) t ∧ t.heap[q]? = some ce ∧ ce.vm = .none ∧ A.U.vm.findClass E = some ce.cls ∧ B.locs = A.locs ++ L ∧ (∀ z ∈ L, free z.base) ∧ B.cells = A.cells + mc ∧ B.slots = A.slots + ms
def vx_Back (l : Launch) (R : Room) (p : Program) (e : Env) (below : List Frame) (s : State) (sargs : Array Value) (y : MethodName) (len W9 : Nat)
    (Pre : Pt → Array Value → Prop) (Post : Pt → Array Value → Option Value → Pt → Prop) (PostX : Pt → Array Value → Addr → Pt → Prop) : Prop :=
  ∀ (m : MethodId) (meth : Method) (c : Code) (A : Pt) (g : JFrame) (ig : Instr) (mk : MethodId) (a : Array Value),
    Stand p l e R s m sargs below meth c A.U A.locs A.cells A.slots → g.method = m → g.locals.size = c.maxLocals → decode c.code g.pc = .ok (ig, len) →
    2 * g.monitorRoom + (g.stack.map fun v => v.category).sum ≤ W9 → A.U.methodNamed? y = some mk → Pre A a →
    (∃ (v : Option Value) (B : Pt), Stand p l e R s m sargs below meth c B.U B.locs B.cells B.slots ∧ Post A a v B ∧
      Steps p.tables e below (doInvoke e (A.U.setTop g) [] mk a).1 (B.U.setTop { g with pc := g.pc + len, stack := v.toList ++ g.stack })) ∨
    (∃ (q : Addr) (B : Pt), Stand p l e R s m sargs below meth c B.U B.locs B.cells B.slots ∧ PostX A a q B ∧
      Steps p.tables e below (doInvoke e (A.U.setTop g) [] mk a).1 ((B.U.setTop g).pushFrame (.throwing q)))
section Payer
variable {l : Launch} {R : Room} {p : Program} {e : Env} {below : List Frame} {s : State} {sargs : Array Value} {y : MethodName} {len W9 : Nat}
theorem vx_back {ws : List Cond} {rm : Room} {Pc : Array Value → State → Prop} {Qc : Array Value → State → Outcome → State → Prop} {XC : String → State → State → Prop} {mc ms : Nat} {free : Addr → Prop} {bytes : ByteArray} {maxL : Nat} {ret : Option FieldType}
    (hM : vx_Met l y ws rm Pc Qc XC mc ms free) (hblind : FrameBlind Pc) (hrc : rm.cells = mc) (hrs : rm.slots = ms)
    (hframes : rm.frames + 1 ≤ R.frames) (hlocals : W9 + (maxL + 11) + rm.locals ≤ R.locals)
    (hws : ∀ w ∈ ws, ∀ a' U, s.WarmedH U.vm → w.before a' U = true) (hcode : Cond.code y bytes maxL ret ∈ ws) (hinit : ∀ a' U, s.WarmedH U.vm → (Cond.initialized y.cls).before a' U = true) :
    vx_Back l R p e below s sargs y len W9 (PreOf R mc ms Pc) (PostOf Qc mc ms free) (vx_Post XC mc ms free) := by
  intro m meth c A g ig mk a X hg hsize hdg hW hn hp
  have h1 : (headSpec ws rm).pre.before a A.U = true := atoms_intro fun w hw => hws w hw _ _ X.warmed
  have h2 : (Cond.code y bytes maxL ret).before a A.U = true := hws _ hcode _ _ X.warmed
  have h3 : (Cond.initialized y.cls).before a A.U = true := hinit _ _ X.warmed
  have h4 : A.cells + (headSpec ws rm).room.cells ≤ R.cells := by rw [show (headSpec ws rm).room.cells = mc from hrc]; exact hp.1
  have h5 : A.slots + (headSpec ws rm).room.slots ≤ R.slots := by rw [show (headSpec ws rm).room.slots = ms from hrs]; exact hp.2.1
  have hPc : Pc a (A.U.calling g mk a) := hblind _ _ _ _ hp.2.2
  obtain ⟨U, Ls, c0, s0⟩ := A
  dsimp only [Pt.U, Pt.locs, Pt.cells, Pt.slots] at h1 h2 h3 h4 h5 X hn hPc ⊢
  obtain ⟨methY, cY, hmY, hcY, -, hlY, -, -, -, -⟩ := Cond.code_spec hn h2
  obtain ⟨kY, hkY, -⟩ := className_of_methodNamed hn
  have hinitY : kY.init = .initialized := Cond.initialized_spec (findClass_of_methodNamed hn) hkY h3
  have h : At U g.method c below := by rw [hg]; exact X.here
  have hlocals9 : W9 + (maxL + 11) + (headSpec ws rm).room.locals ≤ R.locals := hlocals
  have happ : (headSpec ws rm).appliesLoose y e.platform (U.calling g mk a) = true :=
    Spec.appliesLoose_calling (g := g) h hdg hn hkY hinitY
      (X.room_calling (g := g) (R' := (headSpec ws rm).room) hsize hmY hcY hframes (by rw [hlY]; omega) h4 h5) h1
  obtain ⟨mid, hmid⟩ := h.above
  have hfr : (U.setTop g).frames = (.java g :: mid) ++ below := by rw [State.frames_setTop' g h.top, hmid]; rfl
  obtain ⟨o, s₂, hsteps, -, hend, hq⟩ := Steps.callFree hM p X.admits X.cas X.clock (acts := []) hfr happ hPc trivial
  have hq' : vx_Q Qc XC mc ms free a (U.calling g mk a) o s₂ := hq
  rw [State.frames_setTop' g h.top] at hend
  obtain ⟨g₀, hg0⟩ := Option.isSome_iff_exists.mp h.top
  obtain ⟨r, hr⟩ := State.topJava?_eq_some.mp hg0
  have hr' : (({ U with heap := s₂.heap, slotsUsed := s₂.slotsUsed } : State).setVm s₂.vm).frames = .java g₀ :: r := hr
  rcases hq' with ⟨hqc, L, hfe, hL⟩ | ⟨q, rfl, E, ce, L, hx, hce, hcv, hcl, hW₂, hsm, hL⟩
  · obtain ⟨⟨v, rfl⟩, hW₂, e2, q2, q3, q4, q5, q6⟩ := id hfe
    have e3 : s₂ = ({ (U.calling g mk a).setFrames s₂.frames with heap := s₂.heap, slotsUsed := s₂.slotsUsed } : State).setVm s₂.vm := by
      have : s₂ = ({ s₂ with vm := (U.calling g mk a).vm } : State).setVm s₂.vm := rfl
      rw [e2] at this
      exact this
    obtain ⟨c₂, i₂, len₂, hc₂, hd₂, hf₂⟩ := hend
    have hW' : U.WarmedH s₂.vm := hW₂
    have hcc : c₂ = c := by
      have h1 : s₂.code? g.method = U.code? g.method := by
        rw [State.code?_eq, State.code?_eq, hW'.alike.method?]
      exact Option.some.inj (hc₂.symm.trans (h1.trans h.code))
    subst hcc
    have hlen : len₂ = len := by rw [hdg] at hd₂; cases hd₂; rfl
    subst hlen
    have hs₂ : s₂ = (({ U with heap := s₂.heap, slotsUsed := s₂.slotsUsed } : State).setVm s₂.vm).setTop { g with pc := g.pc + len₂, stack := v.toList ++ g.stack } := by
      refine e3.trans ?_
      rw [hf₂, State.calling_eq h.top, State.setFrames_setFrames, State.setTop_of_frames _ hr', hr]
      rfl
    have hsame : U.sameButNew ({ U with heap := s₂.heap, slotsUsed := s₂.slotsUsed } : State) L mc ms := by
      refine ⟨?_, q2, q3, q4, q5, q6⟩
      obtain ⟨t, ht, -⟩ := State.frames_cons hr
      show ({ U with heap := s₂.heap, slotsUsed := s₂.slotsUsed } : State) = { U.setFrames U.frames with heap := s₂.heap, slotsUsed := s₂.slotsUsed }
      rw [State.setFrames_self ht]
    subst hg
    refine Or.inl ⟨v, ⟨(({ U with heap := s₂.heap, slotsUsed := s₂.slotsUsed } : State).setVm s₂.vm), Ls ++ L, c0 + mc, s0 + ms⟩,
      ⟨X.admits, X.cas, X.clock, X.frames, X.room, X.hears, X.method, X.code, (X.here.setHeapUsed s₂.heap s₂.slotsUsed).setVm hW'.alike, X.tail, State.WarmedH.trans X.warmed hW', X.limits, X.bytes, X.same.trans (hsame.setVm s.vm)⟩,
      ⟨g, mk, s₂, L, rfl, rfl, hqc, rfl, hL, rfl, rfl⟩, ?_⟩
    show Steps p.tables e below _ ((({ U with heap := s₂.heap, slotsUsed := s₂.slotsUsed } : State).setVm s₂.vm).setTop { g with pc := g.pc + len₂, stack := v.toList ++ g.stack })
    rw [← hs₂]
    exact hsteps
  · obtain ⟨e2, q2, q3, q4, q5, q6⟩ := id hsm
    have e3 : s₂ = ({ (U.calling g mk a).setFrames s₂.frames with heap := s₂.heap, slotsUsed := s₂.slotsUsed } : State).setVm s₂.vm := by
      have : s₂ = ({ s₂ with vm := (U.calling g mk a).vm } : State).setVm s₂.vm := rfl
      rw [e2] at this
      exact this
    have hf₂ : s₂.frames = .throwing q :: .java g :: U.frames.tail := hend
    have hW' : U.WarmedH s₂.vm := hW₂
    have hs₂ : s₂ = ((({ U with heap := s₂.heap, slotsUsed := s₂.slotsUsed } : State).setVm s₂.vm).setTop g).pushFrame (.throwing q) := by
      refine e3.trans ?_
      rw [hf₂, State.calling_eq h.top, State.setFrames_setFrames, State.pushFrame, State.frames_setTop _ hr', State.setTop_of_frames _ hr', State.setFrames_setFrames, hr]
      rfl
    have hsame : U.sameButNew ({ U with heap := s₂.heap, slotsUsed := s₂.slotsUsed } : State) L mc ms := by
      refine ⟨?_, q2, q3, q4, q5, q6⟩
      obtain ⟨t, ht, -⟩ := State.frames_cons hr
      show ({ U with heap := s₂.heap, slotsUsed := s₂.slotsUsed } : State) = { U.setFrames U.frames with heap := s₂.heap, slotsUsed := s₂.slotsUsed }
      rw [State.setFrames_self ht]
    subst hg
    refine Or.inr ⟨q, ⟨(({ U with heap := s₂.heap, slotsUsed := s₂.slotsUsed } : State).setVm s₂.vm), Ls ++ L, c0 + mc, s0 + ms⟩,
      ⟨X.admits, X.cas, X.clock, X.frames, X.room, X.hears, X.method, X.code, (X.here.setHeapUsed s₂.heap s₂.slotsUsed).setVm hW'.alike, X.tail, State.WarmedH.trans X.warmed hW', X.limits, X.bytes, X.same.trans (hsame.setVm s.vm)⟩,
      ⟨g, mk, s₂, L, E, ce, rfl, rfl, hx, hce, hcv, hcl, rfl, hL, rfl, rfl⟩, ?_⟩
    show Steps p.tables e below _ (((({ U with heap := s₂.heap, slotsUsed := s₂.slotsUsed } : State).setVm s₂.vm).setTop g).pushFrame (.throwing q))
    rw [← hs₂]
    exact hsteps
end Payer
section Calls
variable {p : Program} {l : Launch} {e : Env} {R : Room} {s : State} {m : MethodId} {args : Array Value} {below : List Frame} {meth : Method} {c : Code} {T : State} {locs : List Loc} {cells slots : Nat}
theorem vx_callV (X : Stand p l e R s m args below meth c T locs cells slots) (hexec : p.tables.exec = Jvm.exec) {own C : String} {index : Nat} {y : MethodName} {bytes : ByteArray} {maxL : Nat} {ret : Option FieldType}
    (hown : s.vm.findClass own = some m.cls) (hlink : (Cond.methodLink own index y).before args s = true) (hinst : (Cond.instanceMethod y).before args s = true) (hsel : (Cond.selects C y y).before args s = true)
    (hcode : (Cond.code y bytes maxL ret).before args s = true) (hy : y.cls ≠ "java/lang/invoke/MethodHandle" ∧ y.cls ≠ "java/lang/invoke/VarHandle")
    {W9 : Nat} {Pre : Pt → Array Value → Prop} {Post : Pt → Array Value → Option Value → Pt → Prop} {PostX : Pt → Array Value → Addr → Pt → Prop} (hK : vx_Back l R p e below s args y 3 W9 Pre Post PostX)
    {b : Addr} {cellB : Cell} (hcell : T.heap[b]? = some cellB) (hobj : cellB.vm.isStatics = false) (hcls : s.vm.findClass C = some cellB.cls)
    {g : JFrame} (hg : g.method = m) (hsize : g.locals.size = c.maxLocals) {argsL rest : List Value} (hlen : ∀ sig, parseMethodDescriptor y.desc = some sig → argsL.length = sig.parameters.length)
    (hstack : g.stack = argsL.reverse ++ .ref b :: rest) (hW : 2 * g.monitorRoom + (rest.map fun v => v.category).sum ≤ W9) (hdg : decode c.code g.pc = .ok (.invokevirtual index, 3))
    (hpre : ∀ vm₁, s.WarmedH vm₁ → Pre ⟨T.setVm vm₁, locs, cells, slots⟩ (Value.ref b :: argsL).toArray) :
    (∃ (v : Option Value) (vm₁ : Vm) (B : Pt), s.WarmedH vm₁ ∧ Stand p l e R s m args below meth c B.U B.locs B.cells B.slots ∧ Post ⟨T.setVm vm₁, locs, cells, slots⟩ (Value.ref b :: argsL).toArray v B ∧
      ∀ target, Steps p.tables e below (B.U.setTop { g with pc := g.pc + 3, stack := v.toList ++ rest }) target → Steps p.tables e below (T.setTop g) target) ∨
    (∃ (q : Addr) (vm₁ : Vm) (B : Pt), s.WarmedH vm₁ ∧ Stand p l e R s m args below meth c B.U B.locs B.cells B.slots ∧ PostX ⟨T.setVm vm₁, locs, cells, slots⟩ (Value.ref b :: argsL).toArray q B ∧
      Steps p.tables e below (T.setTop g) ((B.U.setTop { g with stack := rest }).pushFrame (.throwing q))) := by
  obtain ⟨mk, methM, hnamed, hmethM, hstM, habM⟩ := Cond.instanceMethod_spec hinst
  obtain ⟨methM', cM, hmethM', -, -, -, -, -, -, hsigM⟩ := Cond.code_spec hnamed hcode
  cases hmethM.symm.trans hmethM'
  obtain ⟨c2, r2, m2, q1, q2, q3, q4, kP, hkP, hkPi⟩ := Cond.selects_spec hsel
  cases hcls.symm.trans q1
  cases (State.methodFound?_of_named hnamed hy).symm.trans q2
  cases hnamed.symm.trans q3
  have hselP : selectMethod e.platform s.vm cellB.cls mk = .method mk := by rw [Launch.admits_selectMethod X.admits]; exact q4
  obtain ⟨vm₁, X₁, hstep₁⟩ := X.invokevirtual hexec hown hlink hnamed hmethM hstM hkP hkPi hy (a := b) (cell := cellB) hcell
    (fun z h => by rw [h] at hobj; cases hobj) hselP hmethM habM hkP hkPi (g := g) hg (argsL := argsL) (rest := rest) (hlen _ hsigM) hstack hdg
  rcases hK m meth c ⟨T.setVm vm₁, locs, cells, slots⟩ { g with stack := rest } (.invokevirtual index) mk (Value.ref b :: argsL).toArray X₁ hg hsize hdg hW (X₁.named hnamed) (hpre vm₁ X₁.warmed) with ⟨v, B, X', hpost, hsteps⟩ | ⟨q, B, X', hpost, hsteps⟩
  · exact Or.inl ⟨v, vm₁, B, X₁.warmed, X', hpost, fun target h => hstep₁ _ fun acts => by rw [doInvoke_state]; exact hsteps.trans h⟩
  · exact Or.inr ⟨q, vm₁, B, X₁.warmed, X', hpost, hstep₁ _ fun acts => by rw [doInvoke_state]; exact hsteps⟩
theorem vx_callS (X : Stand p l e R s m args below meth c T locs cells slots) (hexec : p.tables.exec = Jvm.exec) {own : String} {index : Nat} {y : MethodName} {bytes : ByteArray} {maxL : Nat} {ret : Option FieldType}
    (hown : s.vm.findClass own = some m.cls) (hlink : (Cond.methodLink own index y).before args s = true) (hstat : (Cond.static y).before args s = true) (hinit : (Cond.initialized y.cls).before args s = true)
    (hcode : (Cond.code y bytes maxL ret).before args s = true) (hy : y.cls ≠ "java/lang/invoke/MethodHandle" ∧ y.cls ≠ "java/lang/invoke/VarHandle")
    {W9 : Nat} {Pre : Pt → Array Value → Prop} {Post : Pt → Array Value → Option Value → Pt → Prop} {PostX : Pt → Array Value → Addr → Pt → Prop} (hK : vx_Back l R p e below s args y 3 W9 Pre Post PostX)
    {g : JFrame} (hg : g.method = m) (hsize : g.locals.size = c.maxLocals) {argsL rest : List Value} (hlen : ∀ sig, parseMethodDescriptor y.desc = some sig → argsL.length = sig.parameters.length)
    (hstack : g.stack = argsL.reverse ++ rest) (hW : 2 * g.monitorRoom + (rest.map fun v => v.category).sum ≤ W9) (hdg : decode c.code g.pc = .ok (.invokestatic index, 3))
    (hpre : ∀ vm₁, s.WarmedH vm₁ → Pre ⟨T.setVm vm₁, locs, cells, slots⟩ argsL.toArray) :
    (∃ (v : Option Value) (vm₁ : Vm) (B : Pt), s.WarmedH vm₁ ∧ Stand p l e R s m args below meth c B.U B.locs B.cells B.slots ∧ Post ⟨T.setVm vm₁, locs, cells, slots⟩ argsL.toArray v B ∧
      ∀ target, Steps p.tables e below (B.U.setTop { g with pc := g.pc + 3, stack := v.toList ++ rest }) target → Steps p.tables e below (T.setTop g) target) ∨
    (∃ (q : Addr) (vm₁ : Vm) (B : Pt), s.WarmedH vm₁ ∧ Stand p l e R s m args below meth c B.U B.locs B.cells B.slots ∧ PostX ⟨T.setVm vm₁, locs, cells, slots⟩ argsL.toArray q B ∧
      Steps p.tables e below (T.setTop g) ((B.U.setTop { g with stack := rest }).pushFrame (.throwing q))) := by
  obtain ⟨mk, hnamed⟩ := Cond.code_named hcode
  obtain ⟨methM, cM, hmethM, -, -, -, -, -, -, hsigM⟩ := Cond.code_spec hnamed hcode
  have hstatic : methM.isStatic = true := Cond.static_spec hnamed hmethM hstat
  obtain ⟨kP, hkP, -⟩ := className_of_methodNamed hnamed
  have hinitP : kP.init = .initialized := Cond.initialized_spec (findClass_of_methodNamed hnamed) hkP hinit
  obtain ⟨vm₁, X₁, hstep₁⟩ := X.invokestatic hexec hown hlink hnamed hmethM hstatic hkP hinitP hy (g := g) hg (argsL := argsL) (rest := rest) (hlen _ hsigM) hstack hdg
  rcases hK m meth c ⟨T.setVm vm₁, locs, cells, slots⟩ { g with stack := rest } (.invokestatic index) mk argsL.toArray X₁ hg hsize hdg hW (X₁.named hnamed) (hpre vm₁ X₁.warmed) with ⟨v, B, X', hpost, hsteps⟩ | ⟨q, B, X', hpost, hsteps⟩
  · exact Or.inl ⟨v, vm₁, B, X₁.warmed, X', hpost, fun target h => hstep₁ _ fun acts => by rw [doInvoke_state]; exact hsteps.trans h⟩
  · exact Or.inr ⟨q, vm₁, B, X₁.warmed, X', hpost, hstep₁ _ fun acts => by rw [doInvoke_state]; exact hsteps⟩
end Calls
theorem vx_cls {s : State} {T : State} {vm₁ : Vm} {E : String} {k : ClassId} (hW : s.WarmedH vm₁) (h : (T.setVm vm₁).vm.findClass E = some k) : s.vm.findClass E = some k := by
  have h1 : vm₁.findClass E = some k := h
  rw [hW.alike.findClass] at h1
  exact h1
/-- the method's frame g, with q thrown over it -/
def vx_W (p : Program) (l : Launch) (e : Env) (R : Room) (s : State) (m : MethodId) (args : Array Value) (below : List Frame) (meth : Method) (c : Code) (H : Heap) (locs : List Loc) (cells slots : Nat) (Q : State → Prop) (g : JFrame) (q : Addr) : Prop :=
  ∀ T : State, T.heap = H → Stand p l e R s m args below meth c T locs cells slots → ∃ t, Steps p.tables e below ((T.setTop g).pushFrame (.throwing q)) t ∧ Q t
def vx_Run (p : Program) (l : Launch) (e : Env) (R : Room) (s : State) (m : MethodId) (args : Array Value) (below : List Frame) (meth : Method) (c : Code) (H : Heap) (locs : List Loc) (cells slots mc ms : Nat) (g : JFrame) (rest : List Value) (Qa : State → Outcome → State → Prop) (XC : String → State → State → Prop) (free : Addr → Prop) : Prop :=
  ∀ T : State, T.heap = H → Stand p l e R s m args below meth c T locs cells slots →
    (∃ (v : Option Value) (st₀ t T' : State) (L : List Loc), st₀.heap = H ∧ Stand p l e R s m args below meth c T' (locs ++ L) (cells + mc) (slots + ms) ∧ (∀ q ∈ L, free q.base) ∧ T'.heap = t.heap ∧ T'.vm = t.vm ∧ Qa st₀ (.returned v) t ∧
      Goes p e below T g T' { g with pc := g.pc + 3, stack := v.toList ++ rest }) ∨
    (∃ (q : Addr) (st₀ t T' : State) (L : List Loc) (E : String) (ce : Cell), st₀.heap = H ∧ Stand p l e R s m args below meth c T' (locs ++ L) (cells + mc) (slots + ms) ∧ (∀ z ∈ L, free z.base) ∧ T'.heap = t.heap ∧ T'.vm = t.vm ∧ XC E st₀ t ∧ t.heap[q]? = some ce ∧ ce.vm = .none ∧ s.vm.findClass E = some ce.cls ∧
      Steps p.tables e below (T.setTop g) ((T'.setTop { g with stack := rest }).pushFrame (.throwing q)))
def vx_X {S : Type} (px : S → Prop) (B : String → S → State → Prop) (A : Nat → Prop) : String → State → State → Prop := fun E st t => ∃ u : S, px u ∧ B E u t ∧ va_F A st t
section Runs
variable {p : Program} {l : Launch} {e : Env} {R : Room} {s : State} {m : MethodId} {args : Array Value} {below : List Frame} {meth : Method} {c : Code} {H : Heap} {locs : List Loc} {cells slots : Nat}
variable {y : MethodName} {bytes cc : ByteArray} {maxL nL mc ms n index : Nat} {ret : Option FieldType} {ws : List Cond} {rm : Room} {Pc : Array Value → State → Prop} {Qc : Array Value → State → Outcome → State → Prop} {XC : String → State → State → Prop} {free : Addr → Prop} {Ts : List Cond} {own C : String} {b : Addr} {As rest : List Value} {g : JFrame}
theorem vx_callBack (cb : CallB R s args own index y bytes maxL ret ws rm mc ms n) (hM : vx_Met l y ws rm Pc Qc XC mc ms free) (hbl : FrameBlind Pc) : vx_Back l R p e below s args y 3 8 (PreOf R mc ms Pc) (PostOf Qc mc ms free) (vx_Post XC mc ms free) := by
  obtain ⟨hrc, hrs, hfr, hlo, hws, hcw, -, hini, -⟩ := cb
  exact vx_back (bytes := bytes) (maxL := maxL) (ret := ret) hM hbl hrc hrs hfr hlo hws hcw (fun a' U hW => word_at hW (Or.inl (by first | rfl | simp [Cond.onTables, Cond.keeps, Cond.steady])) hini)
theorem vx_runV (S : CallFix p m c cc nL s args Ts own) (hM : vx_Met l y ws rm Pc Qc XC mc ms free) (cw : CallW R s args own C index y bytes maxL ret ws rm mc ms n) (hp : PreV s H C b Pc As)
    (hg : g.method = m) (hn : As.length = n) (hsize : g.locals.size = nL) (hstack : g.stack = As.reverse ++ .ref b :: rest) (hW : 2 * g.monitorRoom + (rest.map fun v => v.category).sum ≤ 8) (hdg : decode cc g.pc = .ok (.invokevirtual index, 3)) (hf : cells + mc ≤ R.cells ∧ slots + ms ≤ R.slots) :
    vx_Run p l e R s m args below meth c H locs cells slots mc ms g rest (Qc (Value.ref b :: As).toArray) XC free := by
  have hK : vx_Back l R p e below s args y 3 8 (PreOf R mc ms Pc) (PostOf Qc mc ms free) (vx_Post XC mc ms free) := vx_callBack cw.1 hM hp.1
  obtain ⟨⟨-, -, -, -, -, -, hcode, -, hy, hlen, hl⟩, hin, hse⟩ := cw
  obtain ⟨hx, hb, hml, ho, -⟩ := S
  obtain ⟨-, ⟨cellB, hcB, hoB, hclB⟩, hPc⟩ := hp
  intro T hT X
  rcases vx_callV X hx (C := C) (bytes := bytes) (maxL := maxL) (ret := ret) ho hl hin hse hcode hy hK (by rw [hT]; exact hcB) hoB hclB hg (hsize.trans hml.symm) (argsL := As) (rest := rest) (fun sig h => hn.trans (hlen sig h)) hstack hW (by rw [hb]; exact hdg)
    (fun vm₁ hW₁ => ⟨hf.1, hf.2, hPc (T.setVm vm₁) hT hW₁⟩) with ⟨v, vm₁, ⟨U', l2, c2, s2⟩, hW₁, X', ⟨g', mk, t, L, e1, e2, hq, h1, hL, h2, h3⟩, st⟩ | ⟨q, vm₁, ⟨U', l2, c2, s2⟩, hW₁, X', ⟨g', mk, t, L, E, ce, e1, e2, hq, hce, hcv, hcl, h1, hL, h2, h3⟩, st⟩
  · dsimp only [Pt.U, Pt.locs, Pt.cells, Pt.slots] at X' e1 e2 h1 h2 h3 st
    subst h1; subst h2; subst h3
    exact Or.inl ⟨v, (T.setVm vm₁).calling g' mk (Value.ref b :: As).toArray, t, U', L, hT, X', hL, e1, e2, hq, st⟩
  · dsimp only [Pt.U, Pt.locs, Pt.cells, Pt.slots] at X' e1 e2 h1 h2 h3 st hcl
    subst h1; subst h2; subst h3
    exact Or.inr ⟨q, (T.setVm vm₁).calling g' mk (Value.ref b :: As).toArray, t, U', L, E, ce, hT, X', hL, e1, e2, hq, hce, hcv, vx_cls hW₁ hcl, st⟩
theorem vx_runS (S : CallFix p m c cc nL s args Ts own) (hM : vx_Met l y ws rm Pc Qc XC mc ms free) (cw : CallB R s args own index y bytes maxL ret ws rm mc ms n ∧ (Cond.static y).before args s = true) (hp : PreS s H Pc As)
    (hg : g.method = m) (hn : As.length = n) (hsize : g.locals.size = nL) (hstack : g.stack = As.reverse ++ rest) (hW : 2 * g.monitorRoom + (rest.map fun v => v.category).sum ≤ 8) (hdg : decode cc g.pc = .ok (.invokestatic index, 3)) (hf : cells + mc ≤ R.cells ∧ slots + ms ≤ R.slots) :
    vx_Run p l e R s m args below meth c H locs cells slots mc ms g rest (Qc As.toArray) XC free := by
  have hK : vx_Back l R p e below s args y 3 8 (PreOf R mc ms Pc) (PostOf Qc mc ms free) (vx_Post XC mc ms free) := vx_callBack cw.1 hM hp.1
  obtain ⟨⟨-, -, -, -, -, -, hcode, hini, hy, hlen, hl⟩, hstt⟩ := cw
  obtain ⟨hx, hb, hml, ho, -⟩ := S
  intro T hT X
  rcases vx_callS X hx (bytes := bytes) (maxL := maxL) (ret := ret) ho hl hstt hini hcode hy hK hg (hsize.trans hml.symm) (argsL := As) (rest := rest) (fun sig h => hn.trans (hlen sig h)) hstack hW (by rw [hb]; exact hdg)
    (fun vm₁ hW₁ => ⟨hf.1, hf.2, hp.2 (T.setVm vm₁) hT hW₁⟩) with ⟨v, vm₁, ⟨U', l2, c2, s2⟩, hW₁, X', ⟨g', mk, t, L, e1, e2, hq, h1, hL, h2, h3⟩, st⟩ | ⟨q, vm₁, ⟨U', l2, c2, s2⟩, hW₁, X', ⟨g', mk, t, L, E, ce, e1, e2, hq, hce, hcv, hcl, h1, hL, h2, h3⟩, st⟩
  · dsimp only [Pt.U, Pt.locs, Pt.cells, Pt.slots] at X' e1 e2 h1 h2 h3 st
    subst h1; subst h2; subst h3
    exact Or.inl ⟨v, (T.setVm vm₁).calling g' mk As.toArray, t, U', L, hT, X', hL, e1, e2, hq, st⟩
  · dsimp only [Pt.U, Pt.locs, Pt.cells, Pt.slots] at X' e1 e2 h1 h2 h3 st hcl
    subst h1; subst h2; subst h3
    exact Or.inr ⟨q, (T.setVm vm₁).calling g' mk As.toArray, t, U', L, E, ce, hT, X', hL, e1, e2, hq, hce, hcv, vx_cls hW₁ hcl, st⟩
end Runs
section Rows
variable {p : Program} {l : Launch} {e : Env} {R : Room} {s : State} {m : MethodId} {args : Array Value} {below : List Frame} {meth : Method} {c : Code} {H : Heap} {locs : List Loc} {cells slots : Nat} {Q : State → Prop}
variable {mc ms : Nat} {free : Addr → Prop} {A0 A1 : Nat → Prop} {H0 : Heap} {a : Array Value} {pc : Nat} {ls : Array Slot} {st0 rest : List Value}
theorem vx_keep {st₀ t T' : State} {L : List Loc} (h0 : st₀.heap = H) (e1 : T'.heap = t.heap) (hS : va_S A0 H0 H locs) (hA : ∀ q, q < H.size → A1 q → A0 q) (hf : ∀ q, free q → A0 q) (hL : ∀ q ∈ L, free q.base) (hF : va_F A1 st₀ t) :
    H.size ≤ T'.heap.size ∧ (∀ q : Nat, q < H.size → ¬ A1 q → T'.heap[q]? = H[q]?) ∧ va_S A0 H0 T'.heap (locs ++ L) := by
  obtain ⟨hz, hk⟩ := hF
  rw [h0] at hz hk
  exact ⟨by rw [e1]; exact hz, fun q h1 h2 => by rw [e1]; exact hk q h1 h2,
    ⟨Nat.le_trans hS.1 (by rw [e1]; exact hz), fun q h1 h2 => by rw [e1, hk q (Nat.lt_of_lt_of_le h1 hS.1) (fun z => h2 (hA q (Nat.lt_of_lt_of_le h1 hS.1) z))]; exact hS.2.1 q h1 h2, fun q hq => by
      rcases List.mem_append.mp hq with h | h
      · exact hS.2.2 q h
      · exact hf _ (hL q h)⟩⟩
theorem vx_calli {S SX : Type} {post : Int32 → S → Prop} {px : SX → Prop} {B : S → State → Prop} {BX : String → SX → State → Prop} {AX : Nat → Prop} (hr : vx_Run p l e R s m args below meth c H locs cells slots mc ms (F0 m pc ls st0) rest (va_Qi post B A1 a) (vx_X px BX AX) free) (hS : va_S A0 H0 H locs) (hA : ∀ q, q < H.size → A1 q → A0 q) (hf : ∀ q, free q → A0 q) (hAX : ∀ q, q < H.size → AX q → A0 q)
    (kx : ∀ (E : String) (ce : Cell) (q9 : Addr) (u : SX) (t : State) (H1 : Heap) (locs1 : List Loc), t.heap = H1 → s.vm.Alike t.vm → px u → BX E u t → H.size ≤ H1.size → (∀ q : Nat, q < H.size → ¬ AX q → H1[q]? = H[q]?) → va_S A0 H0 H1 locs1 → H1[q9]? = some ce → ce.vm = .none → s.vm.findClass E = some ce.cls → vx_W p l e R s m args below meth c H1 locs1 (cells + mc) (slots + ms) Q (F0 m pc ls rest) q9)
    (kk : ∀ (r : Int32) (u : S) (t : State) (H1 : Heap) (locs1 : List Loc), t.heap = H1 → s.vm.Alike t.vm → post r u → B u t → H.size ≤ H1.size → (∀ q : Nat, q < H.size → ¬ A1 q → H1[q]? = H[q]?) → va_S A0 H0 H1 locs1 → W p l e R s m args below meth c H1 locs1 (cells + mc) (slots + ms) Q (F0 m (pc + 3) ls (.int r :: rest))) : W p l e R s m args below meth c H locs cells slots Q (F0 m pc ls st0) := by
  intro T hT X
  rcases hr T hT X with ⟨v, st₀, t, T', L, h0, X', hL, e1, e2, ⟨⟨r, u, hv, hp, hb⟩, hF⟩, st⟩ | ⟨q, st₀, t, T', L, E, ce, h0, X', hL, e1, e2, ⟨u, hp, hb, hF⟩, hce, hcv, hcl, st⟩
  · cases hv
    obtain ⟨k1, k2, k3⟩ := vx_keep h0 e1 hS hA hf hL hF
    obtain ⟨t2, a1, b1⟩ := kk r u t T'.heap (locs ++ L) e1.symm (by rw [← e2]; exact X'.warmed.alike) hp hb k1 k2 k3 T' rfl X'
    exact ⟨t2, st t2 a1, b1⟩
  · obtain ⟨k1, k2, k3⟩ := vx_keep h0 e1 hS hAX hf hL hF
    obtain ⟨t2, a1, b1⟩ := kx E ce q u t T'.heap (locs ++ L) e1.symm (by rw [← e2]; exact X'.warmed.alike) hp hb k1 k2 k3 (by rw [e1]; exact hce) hcv hcl T' rfl X'
    exact ⟨t2, st.trans a1, b1⟩
theorem vx_calll {S SX : Type} {post : Int64 → S → Prop} {px : SX → Prop} {B : S → State → Prop} {BX : String → SX → State → Prop} {AX : Nat → Prop} (hr : vx_Run p l e R s m args below meth c H locs cells slots mc ms (F0 m pc ls st0) rest (va_Ql post B A1 a) (vx_X px BX AX) free) (hS : va_S A0 H0 H locs) (hA : ∀ q, q < H.size → A1 q → A0 q) (hf : ∀ q, free q → A0 q) (hAX : ∀ q, q < H.size → AX q → A0 q)
    (kx : ∀ (E : String) (ce : Cell) (q9 : Addr) (u : SX) (t : State) (H1 : Heap) (locs1 : List Loc), t.heap = H1 → s.vm.Alike t.vm → px u → BX E u t → H.size ≤ H1.size → (∀ q : Nat, q < H.size → ¬ AX q → H1[q]? = H[q]?) → va_S A0 H0 H1 locs1 → H1[q9]? = some ce → ce.vm = .none → s.vm.findClass E = some ce.cls → vx_W p l e R s m args below meth c H1 locs1 (cells + mc) (slots + ms) Q (F0 m pc ls rest) q9)
    (kk : ∀ (r : Int64) (u : S) (t : State) (H1 : Heap) (locs1 : List Loc), t.heap = H1 → s.vm.Alike t.vm → post r u → B u t → H.size ≤ H1.size → (∀ q : Nat, q < H.size → ¬ A1 q → H1[q]? = H[q]?) → va_S A0 H0 H1 locs1 → W p l e R s m args below meth c H1 locs1 (cells + mc) (slots + ms) Q (F0 m (pc + 3) ls (.long r :: rest))) : W p l e R s m args below meth c H locs cells slots Q (F0 m pc ls st0) := by
  intro T hT X
  rcases hr T hT X with ⟨v, st₀, t, T', L, h0, X', hL, e1, e2, ⟨⟨r, u, hv, hp, hb⟩, hF⟩, st⟩ | ⟨q, st₀, t, T', L, E, ce, h0, X', hL, e1, e2, ⟨u, hp, hb, hF⟩, hce, hcv, hcl, st⟩
  · cases hv
    obtain ⟨k1, k2, k3⟩ := vx_keep h0 e1 hS hA hf hL hF
    obtain ⟨t2, a1, b1⟩ := kk r u t T'.heap (locs ++ L) e1.symm (by rw [← e2]; exact X'.warmed.alike) hp hb k1 k2 k3 T' rfl X'
    exact ⟨t2, st t2 a1, b1⟩
  · obtain ⟨k1, k2, k3⟩ := vx_keep h0 e1 hS hAX hf hL hF
    obtain ⟨t2, a1, b1⟩ := kx E ce q u t T'.heap (locs ++ L) e1.symm (by rw [← e2]; exact X'.warmed.alike) hp hb k1 k2 k3 (by rw [e1]; exact hce) hcv hcl T' rfl X'
    exact ⟨t2, st.trans a1, b1⟩
theorem vx_callf {S SX : Type} {post : UInt32 → S → Prop} {px : SX → Prop} {B : S → State → Prop} {BX : String → SX → State → Prop} {AX : Nat → Prop} (hr : vx_Run p l e R s m args below meth c H locs cells slots mc ms (F0 m pc ls st0) rest (va_Qf post B A1 a) (vx_X px BX AX) free) (hS : va_S A0 H0 H locs) (hA : ∀ q, q < H.size → A1 q → A0 q) (hf : ∀ q, free q → A0 q) (hAX : ∀ q, q < H.size → AX q → A0 q)
    (kx : ∀ (E : String) (ce : Cell) (q9 : Addr) (u : SX) (t : State) (H1 : Heap) (locs1 : List Loc), t.heap = H1 → s.vm.Alike t.vm → px u → BX E u t → H.size ≤ H1.size → (∀ q : Nat, q < H.size → ¬ AX q → H1[q]? = H[q]?) → va_S A0 H0 H1 locs1 → H1[q9]? = some ce → ce.vm = .none → s.vm.findClass E = some ce.cls → vx_W p l e R s m args below meth c H1 locs1 (cells + mc) (slots + ms) Q (F0 m pc ls rest) q9)
    (kk : ∀ (r : UInt32) (u : S) (t : State) (H1 : Heap) (locs1 : List Loc), t.heap = H1 → s.vm.Alike t.vm → post r u → B u t → H.size ≤ H1.size → (∀ q : Nat, q < H.size → ¬ A1 q → H1[q]? = H[q]?) → va_S A0 H0 H1 locs1 → W p l e R s m args below meth c H1 locs1 (cells + mc) (slots + ms) Q (F0 m (pc + 3) ls (.float r :: rest))) : W p l e R s m args below meth c H locs cells slots Q (F0 m pc ls st0) := by
  intro T hT X
  rcases hr T hT X with ⟨v, st₀, t, T', L, h0, X', hL, e1, e2, ⟨⟨r, u, hv, hp, hb⟩, hF⟩, st⟩ | ⟨q, st₀, t, T', L, E, ce, h0, X', hL, e1, e2, ⟨u, hp, hb, hF⟩, hce, hcv, hcl, st⟩
  · cases hv
    obtain ⟨k1, k2, k3⟩ := vx_keep h0 e1 hS hA hf hL hF
    obtain ⟨t2, a1, b1⟩ := kk r u t T'.heap (locs ++ L) e1.symm (by rw [← e2]; exact X'.warmed.alike) hp hb k1 k2 k3 T' rfl X'
    exact ⟨t2, st t2 a1, b1⟩
  · obtain ⟨k1, k2, k3⟩ := vx_keep h0 e1 hS hAX hf hL hF
    obtain ⟨t2, a1, b1⟩ := kx E ce q u t T'.heap (locs ++ L) e1.symm (by rw [← e2]; exact X'.warmed.alike) hp hb k1 k2 k3 (by rw [e1]; exact hce) hcv hcl T' rfl X'
    exact ⟨t2, st.trans a1, b1⟩
theorem vx_calld {S SX : Type} {post : UInt64 → S → Prop} {px : SX → Prop} {B : S → State → Prop} {BX : String → SX → State → Prop} {AX : Nat → Prop} (hr : vx_Run p l e R s m args below meth c H locs cells slots mc ms (F0 m pc ls st0) rest (va_Qd post B A1 a) (vx_X px BX AX) free) (hS : va_S A0 H0 H locs) (hA : ∀ q, q < H.size → A1 q → A0 q) (hf : ∀ q, free q → A0 q) (hAX : ∀ q, q < H.size → AX q → A0 q)
    (kx : ∀ (E : String) (ce : Cell) (q9 : Addr) (u : SX) (t : State) (H1 : Heap) (locs1 : List Loc), t.heap = H1 → s.vm.Alike t.vm → px u → BX E u t → H.size ≤ H1.size → (∀ q : Nat, q < H.size → ¬ AX q → H1[q]? = H[q]?) → va_S A0 H0 H1 locs1 → H1[q9]? = some ce → ce.vm = .none → s.vm.findClass E = some ce.cls → vx_W p l e R s m args below meth c H1 locs1 (cells + mc) (slots + ms) Q (F0 m pc ls rest) q9)
    (kk : ∀ (r : UInt64) (u : S) (t : State) (H1 : Heap) (locs1 : List Loc), t.heap = H1 → s.vm.Alike t.vm → post r u → B u t → H.size ≤ H1.size → (∀ q : Nat, q < H.size → ¬ A1 q → H1[q]? = H[q]?) → va_S A0 H0 H1 locs1 → W p l e R s m args below meth c H1 locs1 (cells + mc) (slots + ms) Q (F0 m (pc + 3) ls (.double r :: rest))) : W p l e R s m args below meth c H locs cells slots Q (F0 m pc ls st0) := by
  intro T hT X
  rcases hr T hT X with ⟨v, st₀, t, T', L, h0, X', hL, e1, e2, ⟨⟨r, u, hv, hp, hb⟩, hF⟩, st⟩ | ⟨q, st₀, t, T', L, E, ce, h0, X', hL, e1, e2, ⟨u, hp, hb, hF⟩, hce, hcv, hcl, st⟩
  · cases hv
    obtain ⟨k1, k2, k3⟩ := vx_keep h0 e1 hS hA hf hL hF
    obtain ⟨t2, a1, b1⟩ := kk r u t T'.heap (locs ++ L) e1.symm (by rw [← e2]; exact X'.warmed.alike) hp hb k1 k2 k3 T' rfl X'
    exact ⟨t2, st t2 a1, b1⟩
  · obtain ⟨k1, k2, k3⟩ := vx_keep h0 e1 hS hAX hf hL hF
    obtain ⟨t2, a1, b1⟩ := kx E ce q u t T'.heap (locs ++ L) e1.symm (by rw [← e2]; exact X'.warmed.alike) hp hb k1 k2 k3 (by rw [e1]; exact hce) hcv hcl T' rfl X'
    exact ⟨t2, st.trans a1, b1⟩
theorem vx_callv {S SX : Type} {post : S → Prop} {px : SX → Prop} {B : S → State → Prop} {BX : String → SX → State → Prop} {AX : Nat → Prop} (hr : vx_Run p l e R s m args below meth c H locs cells slots mc ms (F0 m pc ls st0) rest (va_Qv post B A1 a) (vx_X px BX AX) free) (hS : va_S A0 H0 H locs) (hA : ∀ q, q < H.size → A1 q → A0 q) (hf : ∀ q, free q → A0 q) (hAX : ∀ q, q < H.size → AX q → A0 q)
    (kx : ∀ (E : String) (ce : Cell) (q9 : Addr) (u : SX) (t : State) (H1 : Heap) (locs1 : List Loc), t.heap = H1 → s.vm.Alike t.vm → px u → BX E u t → H.size ≤ H1.size → (∀ q : Nat, q < H.size → ¬ AX q → H1[q]? = H[q]?) → va_S A0 H0 H1 locs1 → H1[q9]? = some ce → ce.vm = .none → s.vm.findClass E = some ce.cls → vx_W p l e R s m args below meth c H1 locs1 (cells + mc) (slots + ms) Q (F0 m pc ls rest) q9)
    (kk : ∀ (u : S) (t : State) (H1 : Heap) (locs1 : List Loc), t.heap = H1 → s.vm.Alike t.vm → post u → B u t → H.size ≤ H1.size → (∀ q : Nat, q < H.size → ¬ A1 q → H1[q]? = H[q]?) → va_S A0 H0 H1 locs1 → W p l e R s m args below meth c H1 locs1 (cells + mc) (slots + ms) Q (F0 m (pc + 3) ls (rest))) : W p l e R s m args below meth c H locs cells slots Q (F0 m pc ls st0) := by
  intro T hT X
  rcases hr T hT X with ⟨v, st₀, t, T', L, h0, X', hL, e1, e2, ⟨⟨u, hv, hp, hb⟩, hF⟩, st⟩ | ⟨q, st₀, t, T', L, E, ce, h0, X', hL, e1, e2, ⟨u, hp, hb, hF⟩, hce, hcv, hcl, st⟩
  · cases hv
    obtain ⟨k1, k2, k3⟩ := vx_keep h0 e1 hS hA hf hL hF
    obtain ⟨t2, a1, b1⟩ := kk u t T'.heap (locs ++ L) e1.symm (by rw [← e2]; exact X'.warmed.alike) hp hb k1 k2 k3 T' rfl X'
    exact ⟨t2, st t2 a1, b1⟩
  · obtain ⟨k1, k2, k3⟩ := vx_keep h0 e1 hS hAX hf hL hF
    obtain ⟨t2, a1, b1⟩ := kx E ce q u t T'.heap (locs ++ L) e1.symm (by rw [← e2]; exact X'.warmed.alike) hp hb k1 k2 k3 (by rw [e1]; exact hce) hcv hcl T' rfl X'
    exact ⟨t2, st.trans a1, b1⟩
/-- caught by the row x of this method's table; the rows ahead don't take it -/
theorem vx_catch {own name : String} {E : String} {ce : Cell} {q : Addr} (hown : s.vm.findClass own = some m.cls) (pre : List ExceptionTableEntry) (x : ExceptionTableEntry) (suf : List ExceptionTableEntry) (hsplit : c.exceptionTable.toList = pre ++ x :: suf)
    (hpass : ∀ z ∈ pre, covers z pc = false ∨ (z.catchType ≠ 0 ∧ ∃ nm : String, (Cond.classLink own z.catchType nm).before args s = true ∧ va_Nc E nm s)) (hx : covers x pc = true) (h0 : x.catchType ≠ 0)
    (hlink : (Cond.classLink own x.catchType name).before args s = true) (hcast : (Cond.castable E name).before args s = true) (hcell : H[q]? = some ce) (hv : ce.vm = .none) (hcl : s.vm.findClass E = some ce.cls)
    (kk : W p l e R s m args below meth c H locs cells slots Q (F0 m x.handlerPc ls [.ref q])) : vx_W p l e R s m args below meth c H locs cells slots Q (F0 m pc ls rest) q := by
  intro T hT X
  have hpl : e.platform.magicAccessors = ({} : Platform).magicAccessors := by rw [X.admits.platform]
  obtain ⟨c3, c4, hc3, hc4, hasg⟩ := Cond.castable_spec hcast
  cases Option.some.inj (hc3.symm.trans hcl)
  obtain ⟨c5, hc5, hcl5⟩ := Cond.classLink_spec hown hlink e.platform hpl
  cases Option.some.inj (hc4.symm.trans hc5)
  obtain ⟨vm', X', st⟩ := X.thenCaughtThrough q (g := F0 m pc ls rest) rfl (Steps.refl _) (by rw [hT]; exact hcell) (by rw [hv]; rfl) (by obtain ⟨k9, h9, -⟩ := Vm.findClass_spec hcl; exact ⟨k9, h9⟩) pre x suf hsplit
    (fun z hz => by
      rcases hpass z hz with h | ⟨hz0, nm, hl1, hn1⟩
      · exact Or.inl h
      · obtain ⟨c6, hc6, hcl6⟩ := Cond.classLink_spec hown hl1 e.platform hpl
        obtain ⟨a8, b8, h1, h2, h3⟩ := hn1
        cases Option.some.inj (h1.symm.trans hcl)
        cases Option.some.inj (h2.symm.trans hc6)
        exact Or.inr ⟨hz0, _, hcl6, h3⟩) hx (Or.inr ⟨h0, c4, hcl5, hasg⟩)
  obtain ⟨t, a1, b1⟩ := kk (T.setVm vm') hT X'
  exact ⟨t, st.trans a1, b1⟩
end Rows
section Ends
variable {p : Program} {l : Launch} {e : Env} {R : Room} {s : State} {m : MethodId} {args : Array Value} {below : List Frame} {meth : Method} {c : Code} {H : Heap} {locs : List Loc} {cells slots : Nat} {Q : State → Prop}
variable {mc ms : Nat} {free : Addr → Prop} {A0 A1 : Nat → Prop} {H0 : Heap} {a : Array Value} {ls : Array Slot} {st0 rest : List Value}
variable {Qc : Array Value → State → Outcome → State → Prop} {XC : String → State → State → Prop}
/-- what a body that may throw owes at its end -/
def vx_MQ (below : List Frame) (Qc : Array Value → State → Outcome → State → Prop) (XC : String → State → State → Prop) (a : Array Value) (s : State) (mc ms : Nat) (free : Addr → Prop) : State → Prop := fun t =>
  ∃ o, t.status = .running ∧ Ended t below o ∧ vx_Q Qc XC mc ms free a s o t
theorem vx_ret {g : JFrame} {mc ms : Nat} (k : W p l e R s m args below meth c H locs cells slots (MQ below Qc args s mc ms free) g) : W p l e R s m args below meth c H locs cells slots (vx_MQ below Qc XC args s mc ms free) g := by
  intro T hT X
  obtain ⟨t, a1, o, b1, b2, b3, b4⟩ := k T hT X
  exact ⟨t, a1, o, b1, b2, Or.inl ⟨b3, b4⟩⟩
/-- not caught here: it goes on to the caller -/
theorem vx_widen {g : JFrame} {q : Addr} {k n : Nat} (h1 : cells ≤ k) (h2 : slots ≤ n) (kk : vx_W p l e R s m args below meth c H locs k n Q g q) : vx_W p l e R s m args below meth c H locs cells slots Q g q := fun T hT X => kk T hT (stand_widen X h1 h2)
theorem vx_out {pc : Nat} {E : String} {ce : Cell} {q : Addr} {mc ms : Nat} (hout : ∀ x ∈ c.exceptionTable.toList, covers x pc = false) (hlocks : meth.locks = false) (hcell : H[q]? = some ce) (hv : ce.vm = .none) (hcl : s.vm.findClass E = some ce.cls)
    (hx : ∀ t : State, t.heap = H → s.vm.Alike t.vm → XC E s t) (hf : ∀ z ∈ locs, free z.base) (hc : cells ≤ mc) (hs : slots ≤ ms) :
    vx_W p l e R s m args below meth c H locs cells slots (vx_MQ below Qc XC args s mc ms free) (F0 m pc ls rest) q := by
  intro T hT X
  obtain ⟨st1, hrun, hend, hW, hsm⟩ := X.leaveThrown q (g := F0 m pc ls rest) rfl rfl rfl hout hlocks
  have hcell9 : (T.setFrames (.throwing q :: below)).heap[q]? = some ce := by
    show T.heap[q]? = some ce
    rw [hT]; exact hcell
  exact ⟨_, st1, .threw q, hrun, hend, Or.inr ⟨q, rfl, E, ce, locs, hx _ hT hW.alike, hcell9, hv, hcl, hW, hsm.mono hc hs, hf⟩⟩
theorem vx_frame {U : State} {k n : Nat} (h : s.sameButNew ({ U with vm := s.vm } : State) locs k n) : s.heap.size ≤ U.heap.size ∧ ∀ q : Nat, q < s.heap.size → (∀ z ∈ locs, z.base ≠ q) → U.heap[q]? = s.heap[q]? := by
  obtain ⟨-, h2, -, -, -, h6⟩ := h
  refine ⟨h2, fun q hq hz => ?_⟩
  obtain ⟨c9, e1, e2, e3, e4⟩ := h6 q _ (Array.getElem?_eq_getElem hq)
  have hs : c9.slots = (s.heap[q]).slots := Array.ext_getElem? fun i => e4 i fun hm => hz _ hm rfl
  have h9 : c9 = s.heap[q] := by
    rw [hs] at e2
    exact e2
  have e5 : U.heap[q]? = some c9 := e1
  rw [e5, h9, Array.getElem?_eq_getElem hq]
/-- the words of a throw but the four that speak of the heap -/
def vx_no (w : Cond) : Bool := decide (w ≠ .isRef (.static Bundle.tN "UNASSIGNED_STACK" Bundle.steD)) && decide (w ≠ .isRef (.static Bundle.tN "SUPPRESSED_SENTINEL" Bundle.listD)) && decide (w ≠ .laysStatic Bundle.tN "UNASSIGNED_STACK" Bundle.steD) && decide (w ≠ .laysStatic Bundle.tN "SUPPRESSED_SENTINEL" Bundle.listD)
def vx_at0 (own : String) (ic : Nat) (X : String) (names : List String) : List Cond := (Bundle.ownAtoms0 own ic X names).filter vx_no
def vx_atS (own : String) (ic : Nat) (X : String) (names : List String) : List Cond := (Bundle.ownAtoms own ic X names).filter vx_no
/-- a word that the tables alone decide, or a good one -/
def vx_ot (w : Cond) : Bool := w.onTables || goodWord w
theorem vx_ot_at {args a' : Array Value} {s U : State} {w : Cond} (hW : s.WarmedH U.vm) (hvm : s.vm = U.vm) (hg : vx_ot w = true) (h : w.before args s = true) : w.before a' U = true := by
  simp only [vx_ot, Bool.or_eq_true] at hg
  rcases hg with hg | hg
  · exact va_tabs hg hvm h
  · exact word_at hW (good_of_word hg) h
/-- a list's words: the good ones out of the method's own list, the others by premises of their own -/
theorem vx_hat {args : Array Value} {s : State} {L B : List Cond} (h1 : ∀ w ∈ L.filter goodWord, w.before args s = true) (h2 : ∀ w ∈ L.filter (fun w => !goodWord w), w ∈ B) (h3 : ∀ w ∈ B, w.before args s = true) : ∀ w ∈ L, w.before args s = true := by
  intro w hw
  by_cases g : goodWord w = true
  · exact h1 w (List.mem_filter.mpr ⟨hw, g⟩)
  · refine h3 w (h2 w (List.mem_filter.mpr ⟨hw, ?_⟩))
    show (!goodWord w) = true
    cases hgw : goodWord w
    · rfl
    · exact absurd hgw g
theorem vx_c {args : Array Value} {s : State} {w : Cond} {B : List Cond} (h : w.before args s = true) (t : ∀ w ∈ B, w.before args s = true) : ∀ w' ∈ w :: B, w'.before args s = true := fun w' h' => (List.mem_cons.mp h').elim (fun e => by rw [e]; exact h) (t w')
theorem vx_n {args : Array Value} {s : State} : ∀ w ∈ ([] : List Cond), w.before args s = true := fun _ h => nomatch h
theorem vx_own {args : Array Value} {s : State} {L : List Cond} (h1 : ∀ w ∈ L.filter vx_no, w.before args s = true)
    (hU : (Cond.isRef (.static Bundle.tN "UNASSIGNED_STACK" Bundle.steD)).before args s = true) (hN : (Cond.isRef (.static Bundle.tN "SUPPRESSED_SENTINEL" Bundle.listD)).before args s = true)
    (lU : (Cond.laysStatic Bundle.tN "UNASSIGNED_STACK" Bundle.steD).before args s = true) (lN : (Cond.laysStatic Bundle.tN "SUPPRESSED_SENTINEL" Bundle.listD).before args s = true) : ∀ w ∈ L, w.before args s = true := by
  intro w hw
  by_cases e1 : w = .isRef (.static Bundle.tN "UNASSIGNED_STACK" Bundle.steD)
  · rw [e1]; exact hU
  · by_cases e2 : w = .isRef (.static Bundle.tN "SUPPRESSED_SENTINEL" Bundle.listD)
    · rw [e2]; exact hN
    · by_cases e3 : w = .laysStatic Bundle.tN "UNASSIGNED_STACK" Bundle.steD
      · rw [e3]; exact lU
      · by_cases e4 : w = .laysStatic Bundle.tN "SUPPRESSED_SENTINEL" Bundle.listD
        · rw [e4]; exact lN
        · exact h1 w (List.mem_filter.mpr ⟨hw, by unfold vx_no; rw [decide_eq_true e1, decide_eq_true e2, decide_eq_true e3, decide_eq_true e4]; rfl⟩)
/-- where a static field lies, its class's statics cell in H -/
def vx_L (C n d : String) (A : Nat → Prop) (U : State) (H : Heap) : Prop := ∃ (c : ClassId) (k : Class) (i : Nat) (f : Field) (a : Nat) (cell : Cell), U.vm.findClass C = some c ∧ U.fieldFound? C n d = some (c, k, i, f) ∧ f.isStatic = true ∧ k.statics = some a ∧ H[a]? = some cell ∧ cell.vm.isStatics = true ∧ cell.cls = c ∧ f.slot < cell.slots.size ∧ k.staticTypes[f.slot]? = some f.type ∧ ¬ A a
theorem vx_L.moved {C n d : String} {A : Nat → Prop} {u U : State} {H : Heap} (hvm : u.vm.Alike U.vm) (h : vx_L C n d A u H) : vx_L C n d A U H := by
  obtain ⟨c, k, i, f, a, cell, h1, h2, h3, h4, h5, h6, h7, h8, h9, h10⟩ := h
  obtain ⟨k', hi', he⟩ := State.fieldFound?_setVm hvm h2
  exact ⟨c, k', i, f, a, cell, by rw [hvm.findClass]; exact h1, hi', h3, by rw [he]; exact h4, h5, h6, h7, h8, by rw [he]; exact h9, h10⟩
theorem vx_L.kept {C n d : String} {A : Nat → Prop} {U : State} {H H1 : Heap} (h : vx_L C n d A U H) (hq : ∀ a : Nat, a < H.size → ¬ A a → H1[a]? = H[a]?) : vx_L C n d A U H1 := by
  obtain ⟨c, k, i, f, a, cell, h1, h2, h3, h4, h5, h6, h7, h8, h9, h10⟩ := h
  exact ⟨c, k, i, f, a, cell, h1, h2, h3, h4, by rw [hq a (Array.getElem?_eq_some_iff.mp h5).1 h10]; exact h5, h6, h7, h8, h9, h10⟩
theorem vx_L.narrow {C n d : String} {A B : Nat → Prop} {U : State} {H : Heap} (h : vx_L C n d A U H) (hAB : ∀ q, B q → A q) : vx_L C n d B U H := by
  obtain ⟨c, k, i, f, a, cell, h1, h2, h3, h4, h5, h6, h7, h8, h9, h10⟩ := h
  exact ⟨c, k, i, f, a, cell, h1, h2, h3, h4, h5, h6, h7, h8, h9, fun z => h10 (hAB _ z)⟩
theorem vx_L.word {C n d : String} {A : Nat → Prop} {s : State} {args : Array Value} (h : vx_L C n d A s s.heap) : (Cond.laysStatic C n d).before args s = true := by
  obtain ⟨c, k, i, f, a, cell, h1, h2, h3, h4, h5, h6, h7, h8, h9, -⟩ := h
  show (Cond.laysStatic C n d).holds args s none s [] = true
  exact Cond.laysStatic_of h1 h2 h3 h4 h5 h6 h7 h8 h9
/-- .. and what it holds: null or some reference -/
def vx_Zq (C n d : String) (A : Nat → Prop) (U : State) (H : Heap) : Prop := va_Zq C n d A U H ∧ vx_L C n d A U H
theorem vx_Zq.moved {C n d : String} {A : Nat → Prop} {u U : State} {H : Heap} (hvm : u.vm.Alike U.vm) (h : vx_Zq C n d A u H) : vx_Zq C n d A U H := ⟨va_Zq.moved hvm h.1, vx_L.moved hvm h.2⟩
theorem vx_Zq.kept {C n d : String} {A : Nat → Prop} {U : State} {H H1 : Heap} (h : vx_Zq C n d A U H) (hq : ∀ a : Nat, a < H.size → ¬ A a → H1[a]? = H[a]?) : vx_Zq C n d A U H1 := ⟨va_Zq.kept h.1 hq, vx_L.kept h.2 hq⟩
theorem vx_Zq.narrow {C n d : String} {A B : Nat → Prop} {U : State} {H : Heap} (h : vx_Zq C n d A U H) (hAB : ∀ q, B q → A q) : vx_Zq C n d B U H := ⟨va_Zq.narrow h.1 hAB, vx_L.narrow h.2 hAB⟩
theorem vx_Zqof {args : Array Value} {s : State} {C n d : String} {A : Nat → Prop} (hl : (Cond.laysStatic C n d).before args s = true) (hini : (Cond.initialized C).before args s = true) (h : (Cond.isRef (.static C n d)).before args s = true) (hA : ∀ a : Nat, a < s.heap.size → ¬ A a) : vx_Zq C n d A s s.heap := by
  refine ⟨va_Zqof hl hini h hA, ?_⟩
  obtain ⟨c, k, i, f, a, cell, h1, h2, h3, h4, h5, h6, h7, h8, h9⟩ := Cond.laysStatic_spec hl
  exact ⟨c, k, i, f, a, cell, h1, h2, h3, h4, h5, h6, h7, h8, h9, hA a (Array.getElem?_eq_some_iff.mp h5).1⟩
theorem vx_isRef {C n d : String} {v : Value} {A : Nat → Prop} {s : State} {args : Array Value} (h : va_Z C n d v A s s.heap) (hv : v.isRef = true) : (Cond.isRef (.static C n d)).before args s = true := by
  obtain ⟨cf, kf, fi, f, a, cell, h1, h2, h3, h4, h5, h6, h7, -⟩ := h
  have he : (Term.static C n d).eval args s none [] s = some v := by
    simp [Term.eval, State.fieldNamed?, h1, h2, h4, h5, h6, h7]
  simp only [Cond.before, Cond.holds, Cond.value, he]
  cases v <;> simp_all [Value.isRef]
theorem vx_isRefq {C n d : String} {A : Nat → Prop} {s : State} {args : Array Value} (h : va_Zq C n d A s s.heap) : (Cond.isRef (.static C n d)).before args s = true := by
  rcases h with h | ⟨t, h⟩
  · exact vx_isRef h rfl
  · exact vx_isRef h rfl
/-- the same frame, seen from here: as if the method were called anew in this heap -/
theorem vx_rebase {T : State} (X : Stand p l e R s m args below meth c T locs cells slots) {R' : Room} (hf : R'.frames ≤ R.frames) (hl : R'.locals ≤ R.locals) (hc : cells + R'.cells ≤ R.cells) (hs : slots + R'.slots ≤ R.slots) :
    Stand p l e R' ((T.setVm s.vm).setFrames (.invoking m args :: below)) m args below meth c T [] 0 0 := by
  have htop : (T.setVm s.vm).topJava?.isSome := X.here.top
  have hF : ((T.setVm s.vm).setFrames (.invoking m args :: below)).frames = .invoking m args :: below := State.frames_setFrames _ (State.cur_lt_of_top htop)
  obtain ⟨g₀, hg0⟩ := Option.isSome_iff_exists.mp htop
  obtain ⟨r, hr⟩ := State.topJava?_eq_some.mp hg0
  have hl9 : e.platform.stackLimits (T.setVm s.vm).me = e.platform.stackLimits s.me := X.limits
  have hb9 : (T.setVm s.vm).me.stackBytes = s.me.stackBytes := X.bytes
  refine ⟨X.admits, X.cas, X.clock, hF, ?_, X.hears, X.method, X.code, X.here, X.tail, X.warmed, ?_, ?_, ?_⟩
  · have h := X.room
    have hU : ((T.setVm s.vm).setFrames (.invoking m args :: below)).localsInUse = s.localsInUse := by
      rw [State.localsInUse_invoking hF (meth := meth) (c := c) X.method X.code, State.localsInUse_invoking X.frames X.method X.code]
    simp only [State.hasRoom, Bool.and_eq_true, decide_eq_true_eq] at h ⊢
    obtain ⟨⟨⟨⟨h1, h2, h3, h4, h5, h6⟩, h7⟩, h8⟩, h9⟩ := h
    rw [X.frames, List.length_cons] at h2 h3
    have q1 := X.heapSize
    have q2 := X.used
    simp only [hF, hU, List.length_cons, State.stackLimits_setFrames, State.stackBytes_setFrames, hl9, hb9]
    refine ⟨⟨⟨⟨by omega, by omega, by omega, by omega, by omega, h6⟩, ?_⟩, ?_⟩, X.book⟩
    · show T.heap.size + R'.cells ≤ e.platform.maxCells
      omega
    · show T.slotsUsed + R'.slots ≤ e.platform.maxSlots
      omega
  · rw [State.stackLimits_setFrames]; rfl
  · rw [State.stackBytes_setFrames]; rfl
  · refine ⟨?_, Nat.le_refl _, Nat.le_refl _, ?_, ?_, fun a c9 h9 => ⟨c9, h9, rfl, rfl, fun _ _ => rfl⟩⟩
    · obtain ⟨t, ht, -⟩ := State.frames_cons hr
      show T.setVm s.vm = { ((T.setVm s.vm).setFrames (.invoking m args :: below)).setFrames (T.setVm s.vm).frames with heap := T.heap, slotsUsed := T.slotsUsed }
      rw [State.setFrames_setFrames, State.setFrames_self ht]
      rfl
    · show T.slotsUsed = T.slotsUsed + ((T.heap.toList.drop T.heap.size).map (·.slots.size)).sum
      rw [List.drop_eq_nil_of_le (Nat.le_of_eq Array.length_toList)]
      rfl
    · show ((T.heap.toList.drop T.heap.size).map (·.slots.size)).sum ≤ 0
      rw [List.drop_eq_nil_of_le (Nat.le_of_eq Array.length_toList)]
      exact Nat.le_refl _
/-- 'throw new E()': new; dup; invokespecial; athrow -/
theorem vx_throw0 {cc : ByteArray} {pc : Nat} (hexec : p.tables.exec = Jvm.exec) (hb : c.code = cc) (hl : l.stackTraces = false) {own cls : String} {names : List String} {ik ic mc ms : Nat} {A : Nat → Prop}
    (hown : s.vm.findClass own = some m.cls) (hcls : Bundle.fit cls = true) (hnames : ∀ n ∈ names, Bundle.fit n = true)
    (hk : (Cond.classLink own ik cls).before args s = true) (hini : (Cond.initialized cls).before args s = true) (hat : ∀ w ∈ vx_at0 own ic cls names, w.before args s = true)
    (hgood : ∀ w ∈ Cond.classLink own ik cls :: Cond.initialized cls :: vx_at0 own ic cls names, vx_ot w = true)
    (hU : vx_Zq Bundle.tN "UNASSIGNED_STACK" Bundle.steD A s s.heap) (hN : vx_Zq Bundle.tN "SUPPRESSED_SENTINEL" Bundle.listD A s s.heap) (hS : va_S A s.heap H locs) (hsize : ls.size = c.maxLocals)
    (d0 : decode cc pc = .ok (.new ik, 3)) (d3 : decode cc (pc + 3) = .ok (.dup, 1)) (d4 : decode cc (pc + 4) = .ok (.invokespecial ic, 3)) (d7 : decode cc (pc + 7) = .ok (.athrow, 1))
    (hout : ∀ x ∈ c.exceptionTable.toList, covers x (pc + 7) = false)
    (hRframes : names.length + 3 < R.frames) (hRlocals : (rest.map fun v => v.category).sum + (13 * (names.length + 1) + 42) ≤ R.locals) (hRcells : cells + 1 ≤ R.cells) (hRslots : slots + 6 ≤ R.slots) (hlocks : meth.locks = false)
    (hx : ∀ t : State, s.vm.Alike t.vm → H.size ≤ t.heap.size → (∀ q : Nat, q < H.size → t.heap[q]? = H[q]?) → XC cls s t)
    (hf : ∀ z ∈ locs, free z.base) (hc : cells + 1 ≤ mc) (hs : slots + 6 ≤ ms) :
    W p l e R s m args below meth c H locs cells slots (vx_MQ below Qc XC args s mc ms free) (F0 m pc ls rest) := by
  intro T hT X
  have htr : e.platform.stackTraces = false := (show e.platform.stackTraces = l.stackTraces by rw [X.admits.platform]).trans hl
  have Y := vx_rebase X (R' := { frames := R.frames, locals := R.locals, cells := 1, slots := 6 }) (Nat.le_refl _) (Nat.le_refl _) hRcells hRslots
  obtain ⟨s', hA⟩ : ∃ z, z = (T.setVm s.vm).setFrames (.invoking m args :: below) := ⟨_, rfl⟩
  rw [← hA] at Y
  have hvm : s'.vm = s.vm := by rw [hA]; rfl
  have hhp : s'.heap = H := by rw [hA]; exact hT
  have hW0 : s.WarmedH s'.vm := by rw [hvm]; exact State.WarmedH.refl s
  have hat' : ∀ w ∈ vx_at0 own ic cls names, w.before args s' = true := fun w hw => vx_ot_at hW0 hvm.symm (hgood w (List.mem_cons_of_mem _ (List.mem_cons_of_mem _ hw))) (hat w hw)
  have hk' : (Cond.classLink own ik cls).before args s' = true := vx_ot_at hW0 hvm.symm (hgood _ List.mem_cons_self) hk
  have hini' : (Cond.initialized cls).before args s' = true := vx_ot_at hW0 hvm.symm (hgood _ (List.mem_cons_of_mem _ List.mem_cons_self)) hini
  have hU' : vx_Zq Bundle.tN "UNASSIGNED_STACK" Bundle.steD A s' s'.heap := by rw [hhp]; exact vx_Zq.moved hW0.alike (hU.kept hS.2.1)
  have hN' : vx_Zq Bundle.tN "SUPPRESSED_SENTINEL" Bundle.listD A s' s'.heap := by rw [hhp]; exact vx_Zq.moved hW0.alike (hN.kept hS.2.1)
  have h : ∀ w ∈ Bundle.ownAtoms0 own ic cls names, w.before args s' = true := vx_own hat' (vx_isRefq hU'.1) (vx_isRefq hN'.1) hU'.2.word hN'.2.word
  have hown' : s'.vm.findClass own = some m.cls := by rw [hvm]; exact hown
  have hins : (Cond.instantiable cls 6).before args s' = true := h _ (by simp [Bundle.ownAtoms0])
  obtain ⟨vm₁, cX, kX, hfX, hkX, -, -, X₁, st1⟩ := Y.newCold hexec (own := own) (C := cls) (index := ik) (n := 6) hown' hk' hins hini'
    (g := F0 m pc ls rest) rfl (by rw [hb]; exact d0) (Nat.le_refl _) (Nat.le_refl _)
  generalize hT1 : (T.setVm vm₁).pushCell { cls := cX, slots := kX.instanceTypes.map defaultValue, vm := .none } = T1 at X₁ st1
  have hcat : (Value.ref T.heap.size).category = 1 := rfl
  have hcellA : T1.heap[T.heap.size]? = some (freshCell cX kX) := by rw [← hT1]; exact State.heap_pushCell_size _ _
  have d3' : decode c.code (pc + 3) = .ok (.dup, 1) := by rw [hb]; exact d3
  obtain ⟨U, hsteps, hrun, hend, hW, hsame, ce, hce, hO⟩ := X₁.ctorThrow0 hexec htr (own := own) (cls := cls) (names := names) (ic := ic) hown' hcls hnames h (fun x hx => nomatch hx) hfX hkX hcellA (by rw [hhp, hT]; exact Nat.le_refl _)
    (g := { method := m, pc := pc + 4, locals := ls, stack := .ref T.heap.size :: .ref T.heap.size :: rest, locked := none }) rfl hsize rfl rfl (rest := rest) rfl
    (by rw [hb]; exact d4) (by rw [hb]; exact d7) hout hRframes (by simp only [List.map_cons, List.sum_cons, hcat]; omega) hlocks
  obtain ⟨f1, f2⟩ := vx_frame hsame
  rw [hhp] at f1 f2
  have hWs : s.WarmedH U.vm := State.WarmedH.trans hW0 hW
  have hcl : s.vm.findClass cls = some ce.cls := by
    have h9 := hO.cls
    rw [hvm] at h9
    exact h9
  have hall : s.sameButNew ({ U with vm := s.vm } : State) locs mc ms := by
    subst hA
    obtain ⟨e1, e2⟩ := hsame
    rw [State.setFrames_setFrames] at e1
    have h2 : (T.setVm s.vm).sameButNew ({ U with vm := s.vm } : State) [] (0 + 1) (0 + 6) := ⟨e1, e2⟩
    have h3 := X.same.trans h2
    rw [List.append_nil] at h3
    exact h3.mono hc hs
  refine ⟨U, ?_, .threw T.heap.size, hrun, hend, Or.inr ⟨T.heap.size, rfl, cls, ce, locs, hx U hWs.alike f1 (fun q hq => f2 q hq (fun z hz => nomatch hz)), hce, hO.vm, hcl, hWs, hall, hf⟩⟩
  refine st1 _ ?_
  show Steps p.tables e below (T1.setTop { method := m, pc := pc + 3, locals := ls, stack := .ref T.heap.size :: rest, locked := none }) _
  jvm_step X₁.here [X₁.here.top, hexec, d3', Value.category]
  exact hsteps
/-- 'throw new E("text")': new; dup; ldc; invokespecial; athrow -/
theorem vx_throwS {cc : ByteArray} {pc : Nat} (hexec : p.tables.exec = Jvm.exec) (hb : c.code = cc) (hl : l.stackTraces = false) {own cls text : String} {names : List String} {ik is ic mc ms sa : Nat} {A : Nat → Prop}
    (hown : s.vm.findClass own = some m.cls) (hcls : Bundle.fit cls = true) (hnames : ∀ n ∈ names, Bundle.fit n = true)
    (hk : (Cond.classLink own ik cls).before args s = true) (hini : (Cond.initialized cls).before args s = true) (hstr : vk_R own is text sa s) (hat : ∀ w ∈ vx_atS own ic cls names, w.before args s = true)
    (hgood : ∀ w ∈ Cond.classLink own ik cls :: Cond.initialized cls :: vx_atS own ic cls names, vx_ot w = true)
    (hU : vx_Zq Bundle.tN "UNASSIGNED_STACK" Bundle.steD A s s.heap) (hN : vx_Zq Bundle.tN "SUPPRESSED_SENTINEL" Bundle.listD A s s.heap) (hS : va_S A s.heap H locs) (hsize : ls.size = c.maxLocals)
    (d0 : decode cc pc = .ok (.new ik, 3)) (d3 : decode cc (pc + 3) = .ok (.dup, 1)) (d4 : decode cc (pc + 4) = .ok (.ldc is, 2)) (d6 : decode cc (pc + 6) = .ok (.invokespecial ic, 3)) (d9 : decode cc (pc + 9) = .ok (.athrow, 1))
    (hout : ∀ x ∈ c.exceptionTable.toList, covers x (pc + 9) = false)
    (hRframes : names.length + 3 < R.frames) (hRlocals : (rest.map fun v => v.category).sum + (13 * (names.length + 1) + 43) ≤ R.locals) (hRcells : cells + 1 ≤ R.cells) (hRslots : slots + 6 ≤ R.slots) (hlocks : meth.locks = false)
    (hx : ∀ t : State, s.vm.Alike t.vm → H.size ≤ t.heap.size → (∀ q : Nat, q < H.size → t.heap[q]? = H[q]?) → XC cls s t)
    (hf : ∀ z ∈ locs, free z.base) (hc : cells + 1 ≤ mc) (hs : slots + 6 ≤ ms) :
    W p l e R s m args below meth c H locs cells slots (vx_MQ below Qc XC args s mc ms free) (F0 m pc ls rest) := by
  intro T hT X
  have htr : e.platform.stackTraces = false := (show e.platform.stackTraces = l.stackTraces by rw [X.admits.platform]).trans hl
  have Y := vx_rebase X (R' := { frames := R.frames, locals := R.locals, cells := 1, slots := 6 }) (Nat.le_refl _) (Nat.le_refl _) hRcells hRslots
  obtain ⟨s', hA⟩ : ∃ z, z = (T.setVm s.vm).setFrames (.invoking m args :: below) := ⟨_, rfl⟩
  rw [← hA] at Y
  have hvm : s'.vm = s.vm := by rw [hA]; rfl
  have hhp : s'.heap = H := by rw [hA]; exact hT
  have hW0 : s.WarmedH s'.vm := by rw [hvm]; exact State.WarmedH.refl s
  have hat' : ∀ w ∈ vx_atS own ic cls names, w.before args s' = true := fun w hw => vx_ot_at hW0 hvm.symm (hgood w (List.mem_cons_of_mem _ (List.mem_cons_of_mem _ hw))) (hat w hw)
  have hk' : (Cond.classLink own ik cls).before args s' = true := vx_ot_at hW0 hvm.symm (hgood _ List.mem_cons_self) hk
  have hini' : (Cond.initialized cls).before args s' = true := vx_ot_at hW0 hvm.symm (hgood _ (List.mem_cons_of_mem _ List.mem_cons_self)) hini
  have hU' : vx_Zq Bundle.tN "UNASSIGNED_STACK" Bundle.steD A s' s'.heap := by rw [hhp]; exact vx_Zq.moved hW0.alike (hU.kept hS.2.1)
  have hN' : vx_Zq Bundle.tN "SUPPRESSED_SENTINEL" Bundle.listD A s' s'.heap := by rw [hhp]; exact vx_Zq.moved hW0.alike (hN.kept hS.2.1)
  have h : ∀ w ∈ Bundle.ownAtoms own ic cls names, w.before args s' = true := vx_own hat' (vx_isRefq hU'.1) (vx_isRefq hN'.1) hU'.2.word hN'.2.word
  have hown' : s'.vm.findClass own = some m.cls := by rw [hvm]; exact hown
  have hins : (Cond.instantiable cls 6).before args s' = true := h _ (by simp [Bundle.ownAtoms])
  obtain ⟨vm₁, cX, kX, hfX, hkX, -, -, X₁, st1⟩ := Y.newCold hexec (own := own) (C := cls) (index := ik) (n := 6) hown' hk' hins hini'
    (g := F0 m pc ls rest) rfl (by rw [hb]; exact d0) (Nat.le_refl _) (Nat.le_refl _)
  generalize hT1 : (T.setVm vm₁).pushCell { cls := cX, slots := kX.instanceTypes.map defaultValue, vm := .none } = T1 at X₁ st1
  have hcat : (Value.ref T.heap.size).category = 1 := rfl
  have hcellA : T1.heap[T.heap.size]? = some (freshCell cX kX) := by rw [← hT1]; exact State.heap_pushCell_size _ _
  have d3' : decode c.code (pc + 3) = .ok (.dup, 1) := by rw [hb]; exact d3
  have d4' : decode c.code (pc + 4) = .ok (.ldc is, 2) := by rw [hb]; exact d4
  have hstr' : vk_R own is text sa s' := vk_R.warm hW0 hstr
  obtain ⟨U, hsteps, hrun, hend, hW, hsame, ce, hce, hO⟩ := X₁.ctorThrowS hexec htr (own := own) (cls := cls) (names := names) (ic := ic) hown' hcls hnames h (fun x hx => nomatch hx) hfX hkX hcellA (by rw [hhp, hT]; exact Nat.le_refl _) (msg := .ref sa) rfl
    (g := { method := m, pc := pc + 6, locals := ls, stack := .ref sa :: .ref T.heap.size :: .ref T.heap.size :: rest, locked := none }) rfl hsize rfl rfl (rest := rest) rfl
    (by rw [hb]; exact d6) (by rw [hb]; exact d9) hout hRframes (by simp only [List.map_cons, List.sum_cons, hcat]; omega) hlocks
  obtain ⟨f1, f2⟩ := vx_frame hsame
  rw [hhp] at f1 f2
  have hWs : s.WarmedH U.vm := State.WarmedH.trans hW0 hW
  have hcl : s.vm.findClass cls = some ce.cls := by
    have h9 := hO.cls
    rw [hvm] at h9
    exact h9
  have hall : s.sameButNew ({ U with vm := s.vm } : State) locs mc ms := by
    subst hA
    obtain ⟨e1, e2⟩ := hsame
    rw [State.setFrames_setFrames] at e1
    have h2 : (T.setVm s.vm).sameButNew ({ U with vm := s.vm } : State) [] (0 + 1) (0 + 6) := ⟨e1, e2⟩
    have h3 := X.same.trans h2
    rw [List.append_nil] at h3
    exact h3.mono hc hs
  refine ⟨U, ?_, .threw T.heap.size, hrun, hend, Or.inr ⟨T.heap.size, rfl, cls, ce, locs, hx U hWs.alike f1 (fun q hq => f2 q hq (fun z hz => nomatch hz)), hce, hO.vm, hcl, hWs, hall, hf⟩⟩
  refine st1 _ ?_
  show Steps p.tables e below (T1.setTop { method := m, pc := pc + 3, locals := ls, stack := .ref T.heap.size :: rest, locked := none }) _
  jvm_step X₁.here [X₁.here.top, hexec, d3', Value.category]
  exact X₁.ldcString hexec (own := own) (text := text) (index := is) (a := sa) hown' hstr'.1 hstr'.2
    (g := { method := m, pc := pc + 4, locals := ls, stack := .ref T.heap.size :: .ref T.heap.size :: rest, locked := none }) rfl d4' _ hsteps
/-- 'throw new E("text")', the text by a wide index -/
theorem vx_throwSW {cc : ByteArray} {pc : Nat} (hexec : p.tables.exec = Jvm.exec) (hb : c.code = cc) (hl : l.stackTraces = false) {own cls text : String} {names : List String} {ik is ic mc ms sa : Nat} {A : Nat → Prop}
    (hown : s.vm.findClass own = some m.cls) (hcls : Bundle.fit cls = true) (hnames : ∀ n ∈ names, Bundle.fit n = true)
    (hk : (Cond.classLink own ik cls).before args s = true) (hini : (Cond.initialized cls).before args s = true) (hstr : vk_R own is text sa s) (hat : ∀ w ∈ vx_atS own ic cls names, w.before args s = true)
    (hgood : ∀ w ∈ Cond.classLink own ik cls :: Cond.initialized cls :: vx_atS own ic cls names, vx_ot w = true)
    (hU : vx_Zq Bundle.tN "UNASSIGNED_STACK" Bundle.steD A s s.heap) (hN : vx_Zq Bundle.tN "SUPPRESSED_SENTINEL" Bundle.listD A s s.heap) (hS : va_S A s.heap H locs) (hsize : ls.size = c.maxLocals)
    (d0 : decode cc pc = .ok (.new ik, 3)) (d3 : decode cc (pc + 3) = .ok (.dup, 1)) (d4 : decode cc (pc + 4) = .ok (.ldc_w is, 3)) (d7 : decode cc (pc + 7) = .ok (.invokespecial ic, 3)) (d10 : decode cc (pc + 10) = .ok (.athrow, 1))
    (hout : ∀ x ∈ c.exceptionTable.toList, covers x (pc + 10) = false)
    (hRframes : names.length + 3 < R.frames) (hRlocals : (rest.map fun v => v.category).sum + (13 * (names.length + 1) + 43) ≤ R.locals) (hRcells : cells + 1 ≤ R.cells) (hRslots : slots + 6 ≤ R.slots) (hlocks : meth.locks = false)
    (hx : ∀ t : State, s.vm.Alike t.vm → H.size ≤ t.heap.size → (∀ q : Nat, q < H.size → t.heap[q]? = H[q]?) → XC cls s t)
    (hf : ∀ z ∈ locs, free z.base) (hc : cells + 1 ≤ mc) (hs : slots + 6 ≤ ms) :
    W p l e R s m args below meth c H locs cells slots (vx_MQ below Qc XC args s mc ms free) (F0 m pc ls rest) := by
  intro T hT X
  have htr : e.platform.stackTraces = false := (show e.platform.stackTraces = l.stackTraces by rw [X.admits.platform]).trans hl
  have Y := vx_rebase X (R' := { frames := R.frames, locals := R.locals, cells := 1, slots := 6 }) (Nat.le_refl _) (Nat.le_refl _) hRcells hRslots
  obtain ⟨s', hA⟩ : ∃ z, z = (T.setVm s.vm).setFrames (.invoking m args :: below) := ⟨_, rfl⟩
  rw [← hA] at Y
  have hvm : s'.vm = s.vm := by rw [hA]; rfl
  have hhp : s'.heap = H := by rw [hA]; exact hT
  have hW0 : s.WarmedH s'.vm := by rw [hvm]; exact State.WarmedH.refl s
  have hat' : ∀ w ∈ vx_atS own ic cls names, w.before args s' = true := fun w hw => vx_ot_at hW0 hvm.symm (hgood w (List.mem_cons_of_mem _ (List.mem_cons_of_mem _ hw))) (hat w hw)
  have hk' : (Cond.classLink own ik cls).before args s' = true := vx_ot_at hW0 hvm.symm (hgood _ List.mem_cons_self) hk
  have hini' : (Cond.initialized cls).before args s' = true := vx_ot_at hW0 hvm.symm (hgood _ (List.mem_cons_of_mem _ List.mem_cons_self)) hini
  have hU' : vx_Zq Bundle.tN "UNASSIGNED_STACK" Bundle.steD A s' s'.heap := by rw [hhp]; exact vx_Zq.moved hW0.alike (hU.kept hS.2.1)
  have hN' : vx_Zq Bundle.tN "SUPPRESSED_SENTINEL" Bundle.listD A s' s'.heap := by rw [hhp]; exact vx_Zq.moved hW0.alike (hN.kept hS.2.1)
  have h : ∀ w ∈ Bundle.ownAtoms own ic cls names, w.before args s' = true := vx_own hat' (vx_isRefq hU'.1) (vx_isRefq hN'.1) hU'.2.word hN'.2.word
  have hown' : s'.vm.findClass own = some m.cls := by rw [hvm]; exact hown
  have hins : (Cond.instantiable cls 6).before args s' = true := h _ (by simp [Bundle.ownAtoms])
  obtain ⟨vm₁, cX, kX, hfX, hkX, -, -, X₁, st1⟩ := Y.newCold hexec (own := own) (C := cls) (index := ik) (n := 6) hown' hk' hins hini'
    (g := F0 m pc ls rest) rfl (by rw [hb]; exact d0) (Nat.le_refl _) (Nat.le_refl _)
  generalize hT1 : (T.setVm vm₁).pushCell { cls := cX, slots := kX.instanceTypes.map defaultValue, vm := .none } = T1 at X₁ st1
  have hcat : (Value.ref T.heap.size).category = 1 := rfl
  have hcellA : T1.heap[T.heap.size]? = some (freshCell cX kX) := by rw [← hT1]; exact State.heap_pushCell_size _ _
  have d3' : decode c.code (pc + 3) = .ok (.dup, 1) := by rw [hb]; exact d3
  have d4' : decode c.code (pc + 4) = .ok (.ldc_w is, 3) := by rw [hb]; exact d4
  have hstr' : vk_R own is text sa s' := vk_R.warm hW0 hstr
  obtain ⟨U, hsteps, hrun, hend, hW, hsame, ce, hce, hO⟩ := X₁.ctorThrowS hexec htr (own := own) (cls := cls) (names := names) (ic := ic) hown' hcls hnames h (fun x hx => nomatch hx) hfX hkX hcellA (by rw [hhp, hT]; exact Nat.le_refl _) (msg := .ref sa) rfl
    (g := { method := m, pc := pc + 7, locals := ls, stack := .ref sa :: .ref T.heap.size :: .ref T.heap.size :: rest, locked := none }) rfl hsize rfl rfl (rest := rest) rfl
    (by rw [hb]; exact d7) (by rw [hb]; exact d10) hout hRframes (by simp only [List.map_cons, List.sum_cons, hcat]; omega) hlocks
  obtain ⟨f1, f2⟩ := vx_frame hsame
  rw [hhp] at f1 f2
  have hWs : s.WarmedH U.vm := State.WarmedH.trans hW0 hW
  have hcl : s.vm.findClass cls = some ce.cls := by
    have h9 := hO.cls
    rw [hvm] at h9
    exact h9
  have hall : s.sameButNew ({ U with vm := s.vm } : State) locs mc ms := by
    subst hA
    obtain ⟨e1, e2⟩ := hsame
    rw [State.setFrames_setFrames] at e1
    have h2 : (T.setVm s.vm).sameButNew ({ U with vm := s.vm } : State) [] (0 + 1) (0 + 6) := ⟨e1, e2⟩
    have h3 := X.same.trans h2
    rw [List.append_nil] at h3
    exact h3.mono hc hs
  refine ⟨U, ?_, .threw T.heap.size, hrun, hend, Or.inr ⟨T.heap.size, rfl, cls, ce, locs, hx U hWs.alike f1 (fun q hq => f2 q hq (fun z hz => nomatch hz)), hce, hO.vm, hcl, hWs, hall, hf⟩⟩
  refine st1 _ ?_
  show Steps p.tables e below (T1.setTop { method := m, pc := pc + 3, locals := ls, stack := .ref T.heap.size :: rest, locked := none }) _
  jvm_step X₁.here [X₁.here.top, hexec, d3', Value.category]
  exact X₁.ldcStringW hexec (own := own) (text := text) (index := is) (a := sa) hown' hstr'.1 hstr'.2
    (g := { method := m, pc := pc + 4, locals := ls, stack := .ref T.heap.size :: .ref T.heap.size :: rest, locked := none }) rfl d4' _ hsteps
end Ends
section Bodies
variable {l : Launch}
theorem vx_ofW {y : MethodName} {ws ws' : List Cond} {rm : Room} {Pc : Array Value → State → Prop} {Qc : Array Value → State → Outcome → State → Prop} {XC : String → State → State → Prop} {mc ms : Nat} {free : Addr → Prop} {cc : ByteArray} {maxL : Nat} {ret : Option FieldType}
    (hy : plainName y.cls = true) (hw : ws = Cond.code y cc maxL ret :: ws')
    (body : ∀ p e s m args below meth c s₁, BodyLoose p l y (headSpec ws rm) cc maxL ret e s m args below meth c s₁ → c.maxLocals = maxL → (∀ x ∈ c.exceptionTable.toList, False) → Pc args s →
      W p l e (headSpec ws rm).room s m args below meth c s.heap [] 0 0 (vx_MQ below Qc XC args s mc ms free) (entryFrame m args maxL)) : vx_Met l y ws rm Pc Qc XC mc ms free := by
  refine MetFree.of_bodyS (code := cc) (maxLocals := maxL) (ret := ret) hy ?_ ?_
  · intro args s m h hn
    obtain ⟨meth, c, h1, h2, h3, h4, h5, h6, -, -⟩ := Cond.code_spec hn (atoms_spec (ws := ws) h _ (by rw [hw]; exact List.mem_cons_self))
    exact ⟨meth, c, h1, h2, h3, h4, h5, h6⟩
  · intro p e s m args below meth c s₁ B hml hP _
    have hh0 : s₁.heap = s.heap := by rw [B.state]; rfl
    have ht : ∀ x ∈ c.exceptionTable.toList, False := by
      obtain ⟨meth9, c9, h1, h2, -, -, -, -, h7, -⟩ := Cond.code_spec B.named (atoms_spec (ws := ws) B.pre _ (by rw [hw]; exact List.mem_cons_self))
      cases Option.some.inj (h1.symm.trans B.method)
      cases Option.some.inj (h2.symm.trans (Stand.of_body B).code)
      intro x hx
      rw [Array.isEmpty_iff.mp h7] at hx
      cases hx
    obtain ⟨t, a1, o, b1, b2, b3⟩ := body p e s m args below meth c s₁ B hml ht hP s₁ hh0 (Stand.of_body B)
    exact ⟨t, o, a1, b1, b2, b3⟩
/-- the table of a body with handlers -/
theorem vx_table {p : Program} {x y : MethodName} {S : Spec} {cc bytes : ByteArray} {maxL maxL' : Nat} {ret ret' : Option FieldType} {e : Env} {s s₁ : State} {m : MethodId} {args : Array Value} {below : List Frame} {meth : Method} {c : Code} {hh : List (Nat × Nat × Nat × Nat)}
    (B : BodyLoose p l y S cc maxL ret e s m args below meth c s₁) (h : (Cond.codeWith y bytes maxL' ret' hh).before args s = true) : c.exceptionTable.toList = tableOf hh := by
  obtain ⟨m9, meth9, c9, hn9, h1, h2, -, -, h6, -⟩ := Cond.codeWith_spec h
  cases Option.some.inj (hn9.symm.trans B.named)
  cases Option.some.inj (h1.symm.trans B.method)
  cases Option.some.inj (h2.symm.trans (Stand.of_body B).code)
  rw [← h6, table_eq]
end Bodies
end VXA
/-! ===== END ===== -/
/-! ===== BEGIN a static call of a method with an exception table ===== -/
section VXS
variable {p : Program} {l : Launch} {e : Env} {R : Room} {s : State} {m : MethodId} {args : Array Value} {below : List Frame} {meth : Method} {c : Code} {T : State} {H : Heap} {locs : List Loc} {cells slots : Nat}
abbrev vx_CSW (R : Room) (s : State) (args : Array Value) (own : String) (index : Nat) (y : MethodName) (bytes : ByteArray) (maxL : Nat) (ret : Option FieldType) (hh : List (Nat × Nat × Nat × Nat)) (ws : List Cond) (rm : Room) (mc ms n : Nat) : Prop :=
  (rm.cells = mc ∧ rm.slots = ms ∧ rm.frames + 1 ≤ R.frames ∧ 8 + (maxL + 11) + rm.locals ≤ R.locals ∧ (∀ w ∈ ws, ∀ (a' : Array Value) (U : State), s.WarmedH U.vm → w.before a' U = true) ∧ Cond.codeWith y bytes maxL ret hh ∈ ws) ∧
  (Cond.codeWith y bytes maxL ret hh).before args s = true ∧ (Cond.initialized y.cls).before args s = true ∧ (y.cls ≠ "java/lang/invoke/MethodHandle" ∧ y.cls ≠ "java/lang/invoke/VarHandle") ∧
  (∀ sig, parseMethodDescriptor y.desc = some sig → n = sig.parameters.length) ∧ (Cond.methodLink own index y).before args s = true ∧ (Cond.static y).before args s = true
theorem vx_cwSW {own : String} {index maxL mc ms : Nat} {y : MethodName} {bytes : ByteArray} {ret : Option FieldType} {hh : List (Nat × Nat × Nat × Nat)} {Ts ws ws' : List Cond} {rm : Room} (n : Nat) (ht : ∀ w ∈ Ts, w.before args s = true) (hT : GoodIn Ts (va_wsS own index y ws)) (hw : ws = Cond.codeWith y bytes maxL ret hh :: ws') (hrc : rm.cells = mc) (hrs : rm.slots = ms)
    (hd : y.cls ≠ "java/lang/invoke/MethodHandle" ∧ y.cls ≠ "java/lang/invoke/VarHandle" ∧ (parseMethodDescriptor y.desc).map (fun d => d.parameters.length) = some n) (hR : rm.frames + 1 ≤ R.frames ∧ 8 + (maxL + 11) + rm.locals ≤ R.locals) :
    vx_CSW R s args own index y bytes maxL ret hh ws rm mc ms n := by
  have ok : ∀ w ∈ va_wsS own index y ws, w.before args s = true := fun w h => ht w (hT w h).1
  have hG : GoodIn Ts ws := fun w h => hT w (by unfold va_wsS; exact List.mem_append_right _ h)
  have hc : Cond.codeWith y bytes maxL ret hh ∈ ws := by rw [hw]; exact List.mem_cons_self
  refine ⟨⟨hrc, hrs, hR.1, hR.2, pay_in ht hG, hc⟩, ht _ (hG _ hc).1, ok _ (by simp [va_wsS]), ⟨hd.1, hd.2.1⟩, fun sig h => ?_, ok _ (by simp [va_wsS]), ok _ (by simp [va_wsS])⟩
  have h2 := hd.2.2
  rw [h] at h2
  exact (Option.some.inj h2).symm
theorem vx_callSW (X : Stand p l e R s m args below meth c T locs cells slots) (hexec : p.tables.exec = Jvm.exec) {own : String} {index : Nat} {y : MethodName} {bytes : ByteArray} {maxL : Nat} {ret : Option FieldType} {hh : List (Nat × Nat × Nat × Nat)}
    (hown : s.vm.findClass own = some m.cls) (hlink : (Cond.methodLink own index y).before args s = true) (hstat : (Cond.static y).before args s = true) (hinit : (Cond.initialized y.cls).before args s = true)
    (hcode : (Cond.codeWith y bytes maxL ret hh).before args s = true) (hy : y.cls ≠ "java/lang/invoke/MethodHandle" ∧ y.cls ≠ "java/lang/invoke/VarHandle")
    {W9 : Nat} {Pre : Pt → Array Value → Prop} {Post : Pt → Array Value → Option Value → Pt → Prop} (hK : Back l R p e below s args y 3 W9 Pre Post)
    {g : JFrame} (hg : g.method = m) (hsize : g.locals.size = c.maxLocals) {argsL rest : List Value} (hlen : ∀ sig, parseMethodDescriptor y.desc = some sig → argsL.length = sig.parameters.length)
    (hstack : g.stack = argsL.reverse ++ rest) (hW : 2 * g.monitorRoom + (rest.map fun v => v.category).sum ≤ W9) (hdg : decode c.code g.pc = .ok (.invokestatic index, 3))
    (hpre : ∀ vm₁, s.WarmedH vm₁ → Pre ⟨T.setVm vm₁, locs, cells, slots⟩ argsL.toArray) :
    ∃ (v : Option Value) (vm₁ : Vm) (B : Pt), s.WarmedH vm₁ ∧ Stand p l e R s m args below meth c B.U B.locs B.cells B.slots ∧ Post ⟨T.setVm vm₁, locs, cells, slots⟩ argsL.toArray v B ∧
      ∀ target, Steps p.tables e below (B.U.setTop { g with pc := g.pc + 3, stack := v.toList ++ rest }) target → Steps p.tables e below (T.setTop g) target := by
  obtain ⟨mk, methM, cM, hnamed, hmethM, -, -, -, -, -, -, hsigM⟩ := Cond.codeWith_spec hcode
  have hstatic : methM.isStatic = true := Cond.static_spec hnamed hmethM hstat
  obtain ⟨kP, hkP, -⟩ := className_of_methodNamed hnamed
  have hinitP : kP.init = .initialized := Cond.initialized_spec (findClass_of_methodNamed hnamed) hkP hinit
  obtain ⟨vm₁, X₁, hstep₁⟩ := X.invokestatic hexec hown hlink hnamed hmethM hstatic hkP hinitP hy (g := g) hg (argsL := argsL) (rest := rest) (hlen _ hsigM) hstack hdg
  obtain ⟨v, B, X', hpost, hsteps⟩ := hK m meth c ⟨T.setVm vm₁, locs, cells, slots⟩ { g with stack := rest } (.invokestatic index) mk argsL.toArray X₁ hg hsize hdg hW (X₁.named hnamed) (hpre vm₁ X₁.warmed)
  exact ⟨v, vm₁, B, X₁.warmed, X', hpost, fun target h => hstep₁ _ fun acts => by rw [doInvoke_state]; exact hsteps.trans h⟩
theorem vx_runSW {y : MethodName} {bytes cc : ByteArray} {maxL nL mc ms n index : Nat} {ret : Option FieldType} {hh : List (Nat × Nat × Nat × Nat)} {ws : List Cond} {rm : Room} {Pc : Array Value → State → Prop} {Qc : Array Value → State → Outcome → State → Prop} {free : Addr → Prop} {Ts : List Cond} {own : String} {As rest : List Value} {g : JFrame}
    (S : CallFix p m c cc nL s args Ts own) (hM : Met l y ws rm Pc Qc mc ms free) (cw : vx_CSW R s args own index y bytes maxL ret hh ws rm mc ms n) (hp : PreS s H Pc As)
    (hg : g.method = m) (hn : As.length = n) (hsize : g.locals.size = nL) (hstack : g.stack = As.reverse ++ rest) (hW : 2 * g.monitorRoom + (rest.map fun v => v.category).sum ≤ 8) (hdg : decode cc g.pc = .ok (.invokestatic index, 3)) (hf : cells + mc ≤ R.cells ∧ slots + ms ≤ R.slots) :
    va_Run p l e R s m args below meth c H locs cells slots mc ms g rest (Qc As.toArray) (free) := by
  obtain ⟨⟨hrc, hrs, hfr, hlo, hws, hcw⟩, hcode, hini, hy, hlen, hl, hstt⟩ := cw
  have hK : Back l R p e below s args y 3 8 (PreOf R mc ms Pc) (PostOf Qc mc ms free) := va_backW (hh := hh) (bytes := bytes) (maxL := maxL) (ret := ret) hM hp.1 hrc hrs hfr hlo hws hcw (fun a' U hW => word_at hW (Or.inl (by first | rfl | simp [Cond.onTables, Cond.keeps, Cond.steady])) hini)
  obtain ⟨hx, hb, hml, ho, -⟩ := S
  intro T hT X
  obtain ⟨v, vm₁, ⟨U', l2, c2, s2⟩, hW₁, X', ⟨g', mk, t, L, e1, e2, hq, h1, hL, h2, h3⟩, st⟩ := vx_callSW X hx (hh := hh) (bytes := bytes) (maxL := maxL) (ret := ret) ho hl hstt hini hcode hy hK hg (hsize.trans hml.symm) (argsL := As) (rest := rest) (fun sig h => hn.trans (hlen sig h)) hstack hW (by rw [hb]; exact hdg)
    (fun vm₁ hW₁ => ⟨hf.1, hf.2, hp.2 (T.setVm vm₁) hT hW₁⟩)
  dsimp only [Pt.U, Pt.locs, Pt.cells, Pt.slots] at X' e1 e2 h1 h2 h3 st
  subst h1; subst h2; subst h3
  exact ⟨v, (T.setVm vm₁).calling g' mk As.toArray, t, U', L, hT, X', hL, e1, e2, hq, st⟩
/-- not caught here, past rows that name other classes: it goes on to the caller -/
theorem vx_outP {p : Program} {l : Launch} {e : Env} {R : Room} {s : State} {m : MethodId} {args : Array Value} {below : List Frame} {meth : Method} {c : Code} {H : Heap} {locs : List Loc} {cells slots : Nat} {free : Addr → Prop} {ls : Array Slot} {rest : List Value} {Qc : Array Value → State → Outcome → State → Prop} {XC : String → State → State → Prop}
    {pc : Nat} {own E : String} {ce : Cell} {q : Addr} {mc ms : Nat} (hown : s.vm.findClass own = some m.cls) (hlocks : meth.locks = false)
    (hpass : ∀ z ∈ c.exceptionTable.toList, covers z pc = false ∨ (z.catchType ≠ 0 ∧ ∃ nm : String, (Cond.classLink own z.catchType nm).before args s = true ∧ va_Nc E nm s)) (hcell : H[q]? = some ce) (hv : ce.vm = .none) (hcl : s.vm.findClass E = some ce.cls)
    (hx : ∀ t : State, t.heap = H → s.vm.Alike t.vm → XC E s t) (hf : ∀ z ∈ locs, free z.base) (hc : cells ≤ mc) (hs : slots ≤ ms) :
    vx_W p l e R s m args below meth c H locs cells slots (vx_MQ below Qc XC args s mc ms free) (F0 m pc ls rest) q := by
  intro T hT X
  have hpl : e.platform.magicAccessors = ({} : Platform).magicAccessors := by rw [X.admits.platform]
  obtain ⟨vm', hW', X', st⟩ := X.outThrough hlocks q (g := F0 m pc ls rest) rfl rfl rfl (cell := ce) (by rw [hT]; exact hcell) (by rw [hv]; rfl)
    (by obtain ⟨k9, h9, -⟩ := Vm.findClass_spec hcl; exact ⟨k9, h9⟩) (fun z hz => by
      rcases hpass z hz with h | ⟨hz0, nm, hl1, hn1⟩
      · exact Or.inl h
      · obtain ⟨c6, hc6, hcl6⟩ := Cond.classLink_spec hown hl1 e.platform hpl
        obtain ⟨a8, b8, h1, h2, h3⟩ := hn1
        cases Option.some.inj (h1.symm.trans hcl)
        cases Option.some.inj (h2.symm.trans hc6)
        exact Or.inr ⟨hz0, _, hcl6, h3⟩)
  obtain ⟨g₀, hfr⟩ := X'.frames_eq
  have hcell9 : ((T.setVm vm').setFrames (.throwing q :: below)).heap[q]? = some ce := by
    show T.heap[q]? = some ce
    rw [hT]; exact hcell
  have hend : Ended ((T.setVm vm').setFrames (.throwing q :: below)) below (.threw q) := State.frames_setFrames _ (State.cur_lt_of_frames hfr)
  refine ⟨(T.setVm vm').setFrames (.throwing q :: below), ?_, .threw q, X'.here.running, hend, Or.inr ⟨q, rfl, E, ce, locs, hx _ hT (X'.ends _).1.alike, hcell9, hv, hcl, (X'.ends _).1, (X'.ends _).2.mono hc hs, hf⟩⟩
  rw [X.pushThrowing_eq]
  exact st
/-- a thing of a world lies in the heap -/
theorem vx_lt {D : va_G} {cl : List vw_C} {ws : va_W} {H1 : Heap} (h : va_P D cl ws H1) {k : Nat} {q : Nat × va_E} (hk : ws[k]? = some q) : q.1 < H1.size := (h k q hk).lt
end VXS
/-! ===== END ===== -/
/-! ===== BEGIN methods with a table of their own: called by a name, returning or throwing ===== -/
section VXH
/-! vx_backW, vx_callVX, vx_callSX, vx_callVW, vx_runVW, vx_runVX, vx_runSX, vx_ofWH follow the same proofs as their sisters above (Free/Laws.lean, Shelf42/LK1.lean); vx_outP calls Shelf42/NT130.lean (outThrough). -/
section
variable {l : Launch} {R : Room} {p : Program} {e : Env} {below : List Frame} {s : State} {sargs : Array Value} {y : MethodName} {len W9 : Nat}
theorem vx_backW {ws : List Cond} {rm : Room} {Pc : Array Value → State → Prop} {Qc : Array Value → State → Outcome → State → Prop} {XC : String → State → State → Prop} {mc ms : Nat} {free : Addr → Prop} {bytes : ByteArray} {maxL : Nat} {ret : Option FieldType} {hh : List (Nat × Nat × Nat × Nat)}
    (hM : vx_Met l y ws rm Pc Qc XC mc ms free) (hblind : FrameBlind Pc) (hrc : rm.cells = mc) (hrs : rm.slots = ms)
    (hframes : rm.frames + 1 ≤ R.frames) (hlocals : W9 + (maxL + 11) + rm.locals ≤ R.locals)
    (hws : ∀ w ∈ ws, ∀ a' U, s.WarmedH U.vm → w.before a' U = true) (hcode : Cond.codeWith y bytes maxL ret hh ∈ ws) (hinit : ∀ a' U, s.WarmedH U.vm → (Cond.initialized y.cls).before a' U = true) :
    vx_Back l R p e below s sargs y len W9 (PreOf R mc ms Pc) (PostOf Qc mc ms free) (vx_Post XC mc ms free) := by
  intro m meth c A g ig mk a X hg hsize hdg hW hn hp
  have h1 : (headSpec ws rm).pre.before a A.U = true := atoms_intro fun w hw => hws w hw _ _ X.warmed
  have h2 : (Cond.codeWith y bytes maxL ret hh).before a A.U = true := hws _ hcode _ _ X.warmed
  have h3 : (Cond.initialized y.cls).before a A.U = true := hinit _ _ X.warmed
  have h4 : A.cells + (headSpec ws rm).room.cells ≤ R.cells := by rw [show (headSpec ws rm).room.cells = mc from hrc]; exact hp.1
  have h5 : A.slots + (headSpec ws rm).room.slots ≤ R.slots := by rw [show (headSpec ws rm).room.slots = ms from hrs]; exact hp.2.1
  have hPc : Pc a (A.U.calling g mk a) := hblind _ _ _ _ hp.2.2
  obtain ⟨U, Ls, c0, s0⟩ := A
  dsimp only [Pt.U, Pt.locs, Pt.cells, Pt.slots] at h1 h2 h3 h4 h5 X hn hPc ⊢
  obtain ⟨m9, methY, cY, hn9, hmY, hcY, -, hlY, -⟩ := Cond.codeWith_spec h2
  cases Option.some.inj (hn9.symm.trans hn)
  obtain ⟨kY, hkY, -⟩ := className_of_methodNamed hn
  have hinitY : kY.init = .initialized := Cond.initialized_spec (findClass_of_methodNamed hn) hkY h3
  have h : At U g.method c below := by rw [hg]; exact X.here
  have hlocals9 : W9 + (maxL + 11) + (headSpec ws rm).room.locals ≤ R.locals := hlocals
  have happ : (headSpec ws rm).appliesLoose y e.platform (U.calling g mk a) = true :=
    Spec.appliesLoose_calling (g := g) h hdg hn hkY hinitY
      (X.room_calling (g := g) (R' := (headSpec ws rm).room) hsize hmY hcY hframes (by rw [hlY]; omega) h4 h5) h1
  obtain ⟨mid, hmid⟩ := h.above
  have hfr : (U.setTop g).frames = (.java g :: mid) ++ below := by rw [State.frames_setTop' g h.top, hmid]; rfl
  obtain ⟨o, s₂, hsteps, -, hend, hq⟩ := Steps.callFree hM p X.admits X.cas X.clock (acts := []) hfr happ hPc trivial
  have hq' : vx_Q Qc XC mc ms free a (U.calling g mk a) o s₂ := hq
  rw [State.frames_setTop' g h.top] at hend
  obtain ⟨g₀, hg0⟩ := Option.isSome_iff_exists.mp h.top
  obtain ⟨r, hr⟩ := State.topJava?_eq_some.mp hg0
  have hr' : (({ U with heap := s₂.heap, slotsUsed := s₂.slotsUsed } : State).setVm s₂.vm).frames = .java g₀ :: r := hr
  rcases hq' with ⟨hqc, L, hfe, hL⟩ | ⟨q, rfl, E, ce, L, hx, hce, hcv, hcl, hW₂, hsm, hL⟩
  · obtain ⟨⟨v, rfl⟩, hW₂, e2, q2, q3, q4, q5, q6⟩ := id hfe
    have e3 : s₂ = ({ (U.calling g mk a).setFrames s₂.frames with heap := s₂.heap, slotsUsed := s₂.slotsUsed } : State).setVm s₂.vm := by
      have : s₂ = ({ s₂ with vm := (U.calling g mk a).vm } : State).setVm s₂.vm := rfl
      rw [e2] at this
      exact this
    obtain ⟨c₂, i₂, len₂, hc₂, hd₂, hf₂⟩ := hend
    have hW' : U.WarmedH s₂.vm := hW₂
    have hcc : c₂ = c := by
      have h1 : s₂.code? g.method = U.code? g.method := by
        rw [State.code?_eq, State.code?_eq, hW'.alike.method?]
      exact Option.some.inj (hc₂.symm.trans (h1.trans h.code))
    subst hcc
    have hlen : len₂ = len := by rw [hdg] at hd₂; cases hd₂; rfl
    subst hlen
    have hs₂ : s₂ = (({ U with heap := s₂.heap, slotsUsed := s₂.slotsUsed } : State).setVm s₂.vm).setTop { g with pc := g.pc + len₂, stack := v.toList ++ g.stack } := by
      refine e3.trans ?_
      rw [hf₂, State.calling_eq h.top, State.setFrames_setFrames, State.setTop_of_frames _ hr', hr]
      rfl
    have hsame : U.sameButNew ({ U with heap := s₂.heap, slotsUsed := s₂.slotsUsed } : State) L mc ms := by
      refine ⟨?_, q2, q3, q4, q5, q6⟩
      obtain ⟨t, ht, -⟩ := State.frames_cons hr
      show ({ U with heap := s₂.heap, slotsUsed := s₂.slotsUsed } : State) = { U.setFrames U.frames with heap := s₂.heap, slotsUsed := s₂.slotsUsed }
      rw [State.setFrames_self ht]
    subst hg
    refine Or.inl ⟨v, ⟨(({ U with heap := s₂.heap, slotsUsed := s₂.slotsUsed } : State).setVm s₂.vm), Ls ++ L, c0 + mc, s0 + ms⟩,
      ⟨X.admits, X.cas, X.clock, X.frames, X.room, X.hears, X.method, X.code, (X.here.setHeapUsed s₂.heap s₂.slotsUsed).setVm hW'.alike, X.tail, State.WarmedH.trans X.warmed hW', X.limits, X.bytes, X.same.trans (hsame.setVm s.vm)⟩,
      ⟨g, mk, s₂, L, rfl, rfl, hqc, rfl, hL, rfl, rfl⟩, ?_⟩
    show Steps p.tables e below _ ((({ U with heap := s₂.heap, slotsUsed := s₂.slotsUsed } : State).setVm s₂.vm).setTop { g with pc := g.pc + len₂, stack := v.toList ++ g.stack })
    rw [← hs₂]
    exact hsteps
  · obtain ⟨e2, q2, q3, q4, q5, q6⟩ := id hsm
    have e3 : s₂ = ({ (U.calling g mk a).setFrames s₂.frames with heap := s₂.heap, slotsUsed := s₂.slotsUsed } : State).setVm s₂.vm := by
      have : s₂ = ({ s₂ with vm := (U.calling g mk a).vm } : State).setVm s₂.vm := rfl
      rw [e2] at this
      exact this
    have hf₂ : s₂.frames = .throwing q :: .java g :: U.frames.tail := hend
    have hW' : U.WarmedH s₂.vm := hW₂
    have hs₂ : s₂ = ((({ U with heap := s₂.heap, slotsUsed := s₂.slotsUsed } : State).setVm s₂.vm).setTop g).pushFrame (.throwing q) := by
      refine e3.trans ?_
      rw [hf₂, State.calling_eq h.top, State.setFrames_setFrames, State.pushFrame, State.frames_setTop _ hr', State.setTop_of_frames _ hr', State.setFrames_setFrames, hr]
      rfl
    have hsame : U.sameButNew ({ U with heap := s₂.heap, slotsUsed := s₂.slotsUsed } : State) L mc ms := by
      refine ⟨?_, q2, q3, q4, q5, q6⟩
      obtain ⟨t, ht, -⟩ := State.frames_cons hr
      show ({ U with heap := s₂.heap, slotsUsed := s₂.slotsUsed } : State) = { U.setFrames U.frames with heap := s₂.heap, slotsUsed := s₂.slotsUsed }
      rw [State.setFrames_self ht]
    subst hg
    refine Or.inr ⟨q, ⟨(({ U with heap := s₂.heap, slotsUsed := s₂.slotsUsed } : State).setVm s₂.vm), Ls ++ L, c0 + mc, s0 + ms⟩,
      ⟨X.admits, X.cas, X.clock, X.frames, X.room, X.hears, X.method, X.code, (X.here.setHeapUsed s₂.heap s₂.slotsUsed).setVm hW'.alike, X.tail, State.WarmedH.trans X.warmed hW', X.limits, X.bytes, X.same.trans (hsame.setVm s.vm)⟩,
      ⟨g, mk, s₂, L, E, ce, rfl, rfl, hx, hce, hcv, hcl, rfl, hL, rfl, rfl⟩, ?_⟩
    show Steps p.tables e below _ (((({ U with heap := s₂.heap, slotsUsed := s₂.slotsUsed } : State).setVm s₂.vm).setTop g).pushFrame (.throwing q))
    rw [← hs₂]
    exact hsteps
end
variable {p : Program} {l : Launch} {e : Env} {R : Room} {s : State} {m : MethodId} {args : Array Value} {below : List Frame} {meth : Method} {c : Code} {T : State} {H : Heap} {locs : List Loc} {cells slots : Nat}
theorem vx_callVX (X : Stand p l e R s m args below meth c T locs cells slots) (hexec : p.tables.exec = Jvm.exec) {own C : String} {index : Nat} {y : MethodName} {bytes : ByteArray} {maxL : Nat} {ret : Option FieldType} {hh : List (Nat × Nat × Nat × Nat)}
    (hown : s.vm.findClass own = some m.cls) (hlink : (Cond.methodLink own index y).before args s = true) (hinst : (Cond.instanceMethod y).before args s = true) (hsel : (Cond.selects C y y).before args s = true)
    (hcode : (Cond.codeWith y bytes maxL ret hh).before args s = true) (hy : y.cls ≠ "java/lang/invoke/MethodHandle" ∧ y.cls ≠ "java/lang/invoke/VarHandle")
    {W9 : Nat} {Pre : Pt → Array Value → Prop} {Post : Pt → Array Value → Option Value → Pt → Prop} {PostX : Pt → Array Value → Addr → Pt → Prop} (hK : vx_Back l R p e below s args y 3 W9 Pre Post PostX)
    {b : Addr} {cellB : Cell} (hcell : T.heap[b]? = some cellB) (hobj : cellB.vm.isStatics = false) (hcls : s.vm.findClass C = some cellB.cls)
    {g : JFrame} (hg : g.method = m) (hsize : g.locals.size = c.maxLocals) {argsL rest : List Value} (hlen : ∀ sig, parseMethodDescriptor y.desc = some sig → argsL.length = sig.parameters.length)
    (hstack : g.stack = argsL.reverse ++ .ref b :: rest) (hW : 2 * g.monitorRoom + (rest.map fun v => v.category).sum ≤ W9) (hdg : decode c.code g.pc = .ok (.invokevirtual index, 3))
    (hpre : ∀ vm₁, s.WarmedH vm₁ → Pre ⟨T.setVm vm₁, locs, cells, slots⟩ (Value.ref b :: argsL).toArray) :
    (∃ (v : Option Value) (vm₁ : Vm) (B : Pt), s.WarmedH vm₁ ∧ Stand p l e R s m args below meth c B.U B.locs B.cells B.slots ∧ Post ⟨T.setVm vm₁, locs, cells, slots⟩ (Value.ref b :: argsL).toArray v B ∧
      ∀ target, Steps p.tables e below (B.U.setTop { g with pc := g.pc + 3, stack := v.toList ++ rest }) target → Steps p.tables e below (T.setTop g) target) ∨
    (∃ (q : Addr) (vm₁ : Vm) (B : Pt), s.WarmedH vm₁ ∧ Stand p l e R s m args below meth c B.U B.locs B.cells B.slots ∧ PostX ⟨T.setVm vm₁, locs, cells, slots⟩ (Value.ref b :: argsL).toArray q B ∧
      Steps p.tables e below (T.setTop g) ((B.U.setTop { g with stack := rest }).pushFrame (.throwing q))) := by
  obtain ⟨mk, methM, hnamed, hmethM, hstM, habM⟩ := Cond.instanceMethod_spec hinst
  obtain ⟨m8, methM', cM, hn8, hmethM', -, -, -, -, -, -, hsigM⟩ := Cond.codeWith_spec hcode
  cases Option.some.inj (hn8.symm.trans hnamed)
  cases hmethM.symm.trans hmethM'
  obtain ⟨c2, r2, m2, q1, q2, q3, q4, kP, hkP, hkPi⟩ := Cond.selects_spec hsel
  cases hcls.symm.trans q1
  cases (State.methodFound?_of_named hnamed hy).symm.trans q2
  cases hnamed.symm.trans q3
  have hselP : selectMethod e.platform s.vm cellB.cls mk = .method mk := by rw [Launch.admits_selectMethod X.admits]; exact q4
  obtain ⟨vm₁, X₁, hstep₁⟩ := X.invokevirtual hexec hown hlink hnamed hmethM hstM hkP hkPi hy (a := b) (cell := cellB) hcell
    (fun z h => by rw [h] at hobj; cases hobj) hselP hmethM habM hkP hkPi (g := g) hg (argsL := argsL) (rest := rest) (hlen _ hsigM) hstack hdg
  rcases hK m meth c ⟨T.setVm vm₁, locs, cells, slots⟩ { g with stack := rest } (.invokevirtual index) mk (Value.ref b :: argsL).toArray X₁ hg hsize hdg hW (X₁.named hnamed) (hpre vm₁ X₁.warmed) with ⟨v, B, X', hpost, hsteps⟩ | ⟨q, B, X', hpost, hsteps⟩
  · exact Or.inl ⟨v, vm₁, B, X₁.warmed, X', hpost, fun target h => hstep₁ _ fun acts => by rw [doInvoke_state]; exact hsteps.trans h⟩
  · exact Or.inr ⟨q, vm₁, B, X₁.warmed, X', hpost, hstep₁ _ fun acts => by rw [doInvoke_state]; exact hsteps⟩
theorem vx_callSX (X : Stand p l e R s m args below meth c T locs cells slots) (hexec : p.tables.exec = Jvm.exec) {own : String} {index : Nat} {y : MethodName} {bytes : ByteArray} {maxL : Nat} {ret : Option FieldType} {hh : List (Nat × Nat × Nat × Nat)}
    (hown : s.vm.findClass own = some m.cls) (hlink : (Cond.methodLink own index y).before args s = true) (hstat : (Cond.static y).before args s = true) (hinit : (Cond.initialized y.cls).before args s = true)
    (hcode : (Cond.codeWith y bytes maxL ret hh).before args s = true) (hy : y.cls ≠ "java/lang/invoke/MethodHandle" ∧ y.cls ≠ "java/lang/invoke/VarHandle")
    {W9 : Nat} {Pre : Pt → Array Value → Prop} {Post : Pt → Array Value → Option Value → Pt → Prop} {PostX : Pt → Array Value → Addr → Pt → Prop} (hK : vx_Back l R p e below s args y 3 W9 Pre Post PostX)
    {g : JFrame} (hg : g.method = m) (hsize : g.locals.size = c.maxLocals) {argsL rest : List Value} (hlen : ∀ sig, parseMethodDescriptor y.desc = some sig → argsL.length = sig.parameters.length)
    (hstack : g.stack = argsL.reverse ++ rest) (hW : 2 * g.monitorRoom + (rest.map fun v => v.category).sum ≤ W9) (hdg : decode c.code g.pc = .ok (.invokestatic index, 3))
    (hpre : ∀ vm₁, s.WarmedH vm₁ → Pre ⟨T.setVm vm₁, locs, cells, slots⟩ argsL.toArray) :
    (∃ (v : Option Value) (vm₁ : Vm) (B : Pt), s.WarmedH vm₁ ∧ Stand p l e R s m args below meth c B.U B.locs B.cells B.slots ∧ Post ⟨T.setVm vm₁, locs, cells, slots⟩ argsL.toArray v B ∧
      ∀ target, Steps p.tables e below (B.U.setTop { g with pc := g.pc + 3, stack := v.toList ++ rest }) target → Steps p.tables e below (T.setTop g) target) ∨
    (∃ (q : Addr) (vm₁ : Vm) (B : Pt), s.WarmedH vm₁ ∧ Stand p l e R s m args below meth c B.U B.locs B.cells B.slots ∧ PostX ⟨T.setVm vm₁, locs, cells, slots⟩ argsL.toArray q B ∧
      Steps p.tables e below (T.setTop g) ((B.U.setTop { g with stack := rest }).pushFrame (.throwing q))) := by
  obtain ⟨mk, methM, cM, hnamed, hmethM, -, -, -, -, -, -, hsigM⟩ := Cond.codeWith_spec hcode
  have hstatic : methM.isStatic = true := Cond.static_spec hnamed hmethM hstat
  obtain ⟨kP, hkP, -⟩ := className_of_methodNamed hnamed
  have hinitP : kP.init = .initialized := Cond.initialized_spec (findClass_of_methodNamed hnamed) hkP hinit
  obtain ⟨vm₁, X₁, hstep₁⟩ := X.invokestatic hexec hown hlink hnamed hmethM hstatic hkP hinitP hy (g := g) hg (argsL := argsL) (rest := rest) (hlen _ hsigM) hstack hdg
  rcases hK m meth c ⟨T.setVm vm₁, locs, cells, slots⟩ { g with stack := rest } (.invokestatic index) mk argsL.toArray X₁ hg hsize hdg hW (X₁.named hnamed) (hpre vm₁ X₁.warmed) with ⟨v, B, X', hpost, hsteps⟩ | ⟨q, B, X', hpost, hsteps⟩
  · exact Or.inl ⟨v, vm₁, B, X₁.warmed, X', hpost, fun target h => hstep₁ _ fun acts => by rw [doInvoke_state]; exact hsteps.trans h⟩
  · exact Or.inr ⟨q, vm₁, B, X₁.warmed, X', hpost, hstep₁ _ fun acts => by rw [doInvoke_state]; exact hsteps⟩
theorem vx_callVW (X : Stand p l e R s m args below meth c T locs cells slots) (hexec : p.tables.exec = Jvm.exec) {own C : String} {index : Nat} {y : MethodName} {bytes : ByteArray} {maxL : Nat} {ret : Option FieldType} {hh : List (Nat × Nat × Nat × Nat)}
    (hown : s.vm.findClass own = some m.cls) (hlink : (Cond.methodLink own index y).before args s = true) (hinst : (Cond.instanceMethod y).before args s = true) (hsel : (Cond.selects C y y).before args s = true)
    (hcode : (Cond.codeWith y bytes maxL ret hh).before args s = true) (hy : y.cls ≠ "java/lang/invoke/MethodHandle" ∧ y.cls ≠ "java/lang/invoke/VarHandle")
    {W9 : Nat} {Pre : Pt → Array Value → Prop} {Post : Pt → Array Value → Option Value → Pt → Prop} (hK : Back l R p e below s args y 3 W9 Pre Post)
    {b : Addr} {cellB : Cell} (hcell : T.heap[b]? = some cellB) (hobj : cellB.vm.isStatics = false) (hcls : s.vm.findClass C = some cellB.cls)
    {g : JFrame} (hg : g.method = m) (hsize : g.locals.size = c.maxLocals) {argsL rest : List Value} (hlen : ∀ sig, parseMethodDescriptor y.desc = some sig → argsL.length = sig.parameters.length)
    (hstack : g.stack = argsL.reverse ++ .ref b :: rest) (hW : 2 * g.monitorRoom + (rest.map fun v => v.category).sum ≤ W9) (hdg : decode c.code g.pc = .ok (.invokevirtual index, 3))
    (hpre : ∀ vm₁, s.WarmedH vm₁ → Pre ⟨T.setVm vm₁, locs, cells, slots⟩ (Value.ref b :: argsL).toArray) :
    ∃ (v : Option Value) (vm₁ : Vm) (B : Pt), s.WarmedH vm₁ ∧ Stand p l e R s m args below meth c B.U B.locs B.cells B.slots ∧ Post ⟨T.setVm vm₁, locs, cells, slots⟩ (Value.ref b :: argsL).toArray v B ∧
      ∀ target, Steps p.tables e below (B.U.setTop { g with pc := g.pc + 3, stack := v.toList ++ rest }) target → Steps p.tables e below (T.setTop g) target := by
  obtain ⟨mk, methM, hnamed, hmethM, hstM, habM⟩ := Cond.instanceMethod_spec hinst
  obtain ⟨m8, methM', cM, hn8, hmethM', -, -, -, -, -, -, hsigM⟩ := Cond.codeWith_spec hcode
  cases Option.some.inj (hn8.symm.trans hnamed)
  cases hmethM.symm.trans hmethM'
  obtain ⟨c2, r2, m2, q1, q2, q3, q4, kP, hkP, hkPi⟩ := Cond.selects_spec hsel
  cases hcls.symm.trans q1
  cases (State.methodFound?_of_named hnamed hy).symm.trans q2
  cases hnamed.symm.trans q3
  have hselP : selectMethod e.platform s.vm cellB.cls mk = .method mk := by rw [Launch.admits_selectMethod X.admits]; exact q4
  obtain ⟨vm₁, X₁, hstep₁⟩ := X.invokevirtual hexec hown hlink hnamed hmethM hstM hkP hkPi hy (a := b) (cell := cellB) hcell
    (fun z h => by rw [h] at hobj; cases hobj) hselP hmethM habM hkP hkPi (g := g) hg (argsL := argsL) (rest := rest) (hlen _ hsigM) hstack hdg
  obtain ⟨v, B, X', hpost, hsteps⟩ := hK m meth c ⟨T.setVm vm₁, locs, cells, slots⟩ { g with stack := rest } (.invokevirtual index) mk (Value.ref b :: argsL).toArray X₁ hg hsize hdg hW (X₁.named hnamed) (hpre vm₁ X₁.warmed)
  exact ⟨v, vm₁, B, X₁.warmed, X', hpost, fun target h => hstep₁ _ fun acts => by rw [doInvoke_state]; exact hsteps.trans h⟩
abbrev vx_CVW (R : Room) (s : State) (args : Array Value) (own C : String) (index : Nat) (y : MethodName) (bytes : ByteArray) (maxL : Nat) (ret : Option FieldType) (hh : List (Nat × Nat × Nat × Nat)) (ws : List Cond) (rm : Room) (mc ms n : Nat) : Prop :=
  (rm.cells = mc ∧ rm.slots = ms ∧ rm.frames + 1 ≤ R.frames ∧ 8 + (maxL + 11) + rm.locals ≤ R.locals ∧ (∀ w ∈ ws, ∀ (a' : Array Value) (U : State), s.WarmedH U.vm → w.before a' U = true) ∧ Cond.codeWith y bytes maxL ret hh ∈ ws) ∧
  (Cond.codeWith y bytes maxL ret hh).before args s = true ∧ (Cond.initialized y.cls).before args s = true ∧ (y.cls ≠ "java/lang/invoke/MethodHandle" ∧ y.cls ≠ "java/lang/invoke/VarHandle") ∧
  (∀ sig, parseMethodDescriptor y.desc = some sig → n = sig.parameters.length) ∧ (Cond.methodLink own index y).before args s = true ∧ (Cond.instanceMethod y).before args s = true ∧ (Cond.selects C y y).before args s = true
theorem vx_cwVW {own C : String} {index maxL mc ms : Nat} {y : MethodName} {bytes : ByteArray} {ret : Option FieldType} {hh : List (Nat × Nat × Nat × Nat)} {Ts ws ws' : List Cond} {rm : Room} (n : Nat) (ht : ∀ w ∈ Ts, w.before args s = true) (hT : GoodIn Ts (wsV own index C y ws)) (hw : ws = Cond.codeWith y bytes maxL ret hh :: ws') (hrc : rm.cells = mc) (hrs : rm.slots = ms)
    (hd : y.cls = C ∧ y.cls ≠ "java/lang/invoke/MethodHandle" ∧ y.cls ≠ "java/lang/invoke/VarHandle" ∧ (parseMethodDescriptor y.desc).map (fun d => d.parameters.length) = some n) (hR : rm.frames + 1 ≤ R.frames ∧ 8 + (maxL + 11) + rm.locals ≤ R.locals) :
    vx_CVW R s args own C index y bytes maxL ret hh ws rm mc ms n := by
  obtain ⟨hC, hd⟩ := hd
  subst hC
  have ok : ∀ w ∈ wsV own index y.cls y ws, w.before args s = true := fun w h => ht w (hT w h).1
  have hG : GoodIn Ts ws := fun w h => hT w (by unfold wsV; exact List.mem_append_right _ h)
  have hc : Cond.codeWith y bytes maxL ret hh ∈ ws := by rw [hw]; exact List.mem_cons_self
  refine ⟨⟨hrc, hrs, hR.1, hR.2, pay_in ht hG, hc⟩, ht _ (hG _ hc).1, ok _ (by simp [wsV]), ⟨hd.1, hd.2.1⟩, fun sig h => ?_, ok _ (by simp [wsV]), ok _ (by simp [wsV]), ok _ (by simp [wsV])⟩
  have h2 := hd.2.2
  rw [h] at h2
  exact (Option.some.inj h2).symm
theorem vx_runVW {y : MethodName} {bytes cc : ByteArray} {maxL nL mc ms n index : Nat} {ret : Option FieldType} {hh : List (Nat × Nat × Nat × Nat)} {ws : List Cond} {rm : Room} {Pc : Array Value → State → Prop} {Qc : Array Value → State → Outcome → State → Prop} {free : Addr → Prop} {Ts : List Cond} {own C : String} {b : Addr} {As rest : List Value} {g : JFrame}
    (S : CallFix p m c cc nL s args Ts own) (hM : Met l y ws rm Pc Qc mc ms free) (cw : vx_CVW R s args own C index y bytes maxL ret hh ws rm mc ms n) (hp : PreV s H C b Pc As)
    (hg : g.method = m) (hn : As.length = n) (hsize : g.locals.size = nL) (hstack : g.stack = As.reverse ++ .ref b :: rest) (hW : 2 * g.monitorRoom + (rest.map fun v => v.category).sum ≤ 8) (hdg : decode cc g.pc = .ok (.invokevirtual index, 3)) (hf : cells + mc ≤ R.cells ∧ slots + ms ≤ R.slots) :
    va_Run p l e R s m args below meth c H locs cells slots mc ms g rest (Qc (Value.ref b :: As).toArray) free := by
  obtain ⟨⟨hrc, hrs, hfr, hlo, hws, hcw⟩, hcode, hini, hy, hlen, hl, hin, hse⟩ := cw
  have hK : Back l R p e below s args y 3 8 (PreOf R mc ms Pc) (PostOf Qc mc ms free) := va_backW (hh := hh) (bytes := bytes) (maxL := maxL) (ret := ret) hM hp.1 hrc hrs hfr hlo hws hcw (fun a' U hW => word_at hW (Or.inl (by first | rfl | simp [Cond.onTables, Cond.keeps, Cond.steady])) hini)
  obtain ⟨hx, hb, hml, ho, -⟩ := S
  obtain ⟨-, ⟨cellB, hcB, hoB, hclB⟩, hPc⟩ := hp
  intro T hT X
  obtain ⟨v, vm₁, ⟨U', l2, c2, s2⟩, hW₁, X', ⟨g', mk, t, L, e1, e2, hq, h1, hL, h2, h3⟩, st⟩ := vx_callVW X hx (C := C) (hh := hh) (bytes := bytes) (maxL := maxL) (ret := ret) ho hl hin hse hcode hy hK (by rw [hT]; exact hcB) hoB hclB hg (hsize.trans hml.symm) (argsL := As) (rest := rest) (fun sig h => hn.trans (hlen sig h)) hstack hW (by rw [hb]; exact hdg)
    (fun vm₁ hW₁ => ⟨hf.1, hf.2, hPc (T.setVm vm₁) hT hW₁⟩)
  dsimp only [Pt.U, Pt.locs, Pt.cells, Pt.slots] at X' e1 e2 h1 h2 h3 st
  subst h1; subst h2; subst h3
  exact ⟨v, (T.setVm vm₁).calling g' mk (Value.ref b :: As).toArray, t, U', L, hT, X', hL, e1, e2, hq, st⟩
section
variable {y : MethodName} {bytes cc : ByteArray} {maxL nL mc ms n index : Nat} {ret : Option FieldType} {ws : List Cond} {rm : Room} {Pc : Array Value → State → Prop} {Qc : Array Value → State → Outcome → State → Prop} {XC : String → State → State → Prop} {free : Addr → Prop} {Ts : List Cond} {own C : String} {b : Addr} {As rest : List Value} {g : JFrame}
theorem vx_runVX {hh : List (Nat × Nat × Nat × Nat)} (S : CallFix p m c cc nL s args Ts own) (hM : vx_Met l y ws rm Pc Qc XC mc ms free) (cw : vx_CVW R s args own C index y bytes maxL ret hh ws rm mc ms n) (hp : PreV s H C b Pc As)
    (hg : g.method = m) (hn : As.length = n) (hsize : g.locals.size = nL) (hstack : g.stack = As.reverse ++ .ref b :: rest) (hW : 2 * g.monitorRoom + (rest.map fun v => v.category).sum ≤ 8) (hdg : decode cc g.pc = .ok (.invokevirtual index, 3)) (hf : cells + mc ≤ R.cells ∧ slots + ms ≤ R.slots) :
    vx_Run p l e R s m args below meth c H locs cells slots mc ms g rest (Qc (Value.ref b :: As).toArray) XC free := by
  obtain ⟨⟨hrc, hrs, hfr, hlo, hws, hcw⟩, hcode, hini, hy, hlen, hl, hin, hse⟩ := cw
  have hK : vx_Back l R p e below s args y 3 8 (PreOf R mc ms Pc) (PostOf Qc mc ms free) (vx_Post XC mc ms free) := vx_backW (hh := hh) (bytes := bytes) (maxL := maxL) (ret := ret) hM hp.1 hrc hrs hfr hlo hws hcw (fun a' U hW => word_at hW (Or.inl (by first | rfl | simp [Cond.onTables, Cond.keeps, Cond.steady])) hini)
  obtain ⟨hx, hb, hml, ho, -⟩ := S
  obtain ⟨-, ⟨cellB, hcB, hoB, hclB⟩, hPc⟩ := hp
  intro T hT X
  rcases vx_callVX X hx (C := C) (hh := hh) (bytes := bytes) (maxL := maxL) (ret := ret) ho hl hin hse hcode hy hK (by rw [hT]; exact hcB) hoB hclB hg (hsize.trans hml.symm) (argsL := As) (rest := rest) (fun sig h => hn.trans (hlen sig h)) hstack hW (by rw [hb]; exact hdg)
    (fun vm₁ hW₁ => ⟨hf.1, hf.2, hPc (T.setVm vm₁) hT hW₁⟩) with ⟨v, vm₁, ⟨U', l2, c2, s2⟩, hW₁, X', ⟨g', mk, t, L, e1, e2, hq, h1, hL, h2, h3⟩, st⟩ | ⟨q, vm₁, ⟨U', l2, c2, s2⟩, hW₁, X', ⟨g', mk, t, L, E, ce, e1, e2, hq, hce, hcv, hcl, h1, hL, h2, h3⟩, st⟩
  · dsimp only [Pt.U, Pt.locs, Pt.cells, Pt.slots] at X' e1 e2 h1 h2 h3 st
    subst h1; subst h2; subst h3
    exact Or.inl ⟨v, (T.setVm vm₁).calling g' mk (Value.ref b :: As).toArray, t, U', L, hT, X', hL, e1, e2, hq, st⟩
  · dsimp only [Pt.U, Pt.locs, Pt.cells, Pt.slots] at X' e1 e2 h1 h2 h3 st hcl
    subst h1; subst h2; subst h3
    exact Or.inr ⟨q, (T.setVm vm₁).calling g' mk (Value.ref b :: As).toArray, t, U', L, E, ce, hT, X', hL, e1, e2, hq, hce, hcv, vx_cls hW₁ hcl, st⟩
theorem vx_runSX {hh : List (Nat × Nat × Nat × Nat)} (S : CallFix p m c cc nL s args Ts own) (hM : vx_Met l y ws rm Pc Qc XC mc ms free) (cw : vx_CSW R s args own index y bytes maxL ret hh ws rm mc ms n) (hp : PreS s H Pc As)
    (hg : g.method = m) (hn : As.length = n) (hsize : g.locals.size = nL) (hstack : g.stack = As.reverse ++ rest) (hW : 2 * g.monitorRoom + (rest.map fun v => v.category).sum ≤ 8) (hdg : decode cc g.pc = .ok (.invokestatic index, 3)) (hf : cells + mc ≤ R.cells ∧ slots + ms ≤ R.slots) :
    vx_Run p l e R s m args below meth c H locs cells slots mc ms g rest (Qc As.toArray) XC free := by
  obtain ⟨⟨hrc, hrs, hfr, hlo, hws, hcw⟩, hcode, hini, hy, hlen, hl, hstt⟩ := cw
  have hK : vx_Back l R p e below s args y 3 8 (PreOf R mc ms Pc) (PostOf Qc mc ms free) (vx_Post XC mc ms free) := vx_backW (hh := hh) (bytes := bytes) (maxL := maxL) (ret := ret) hM hp.1 hrc hrs hfr hlo hws hcw (fun a' U hW => word_at hW (Or.inl (by first | rfl | simp [Cond.onTables, Cond.keeps, Cond.steady])) hini)
  obtain ⟨hx, hb, hml, ho, -⟩ := S
  intro T hT X
  rcases vx_callSX X hx (hh := hh) (bytes := bytes) (maxL := maxL) (ret := ret) ho hl hstt hini hcode hy hK hg (hsize.trans hml.symm) (argsL := As) (rest := rest) (fun sig h => hn.trans (hlen sig h)) hstack hW (by rw [hb]; exact hdg)
    (fun vm₁ hW₁ => ⟨hf.1, hf.2, hp.2 (T.setVm vm₁) hT hW₁⟩) with ⟨v, vm₁, ⟨U', l2, c2, s2⟩, hW₁, X', ⟨g', mk, t, L, e1, e2, hq, h1, hL, h2, h3⟩, st⟩ | ⟨q, vm₁, ⟨U', l2, c2, s2⟩, hW₁, X', ⟨g', mk, t, L, E, ce, e1, e2, hq, hce, hcv, hcl, h1, hL, h2, h3⟩, st⟩
  · dsimp only [Pt.U, Pt.locs, Pt.cells, Pt.slots] at X' e1 e2 h1 h2 h3 st
    subst h1; subst h2; subst h3
    exact Or.inl ⟨v, (T.setVm vm₁).calling g' mk As.toArray, t, U', L, hT, X', hL, e1, e2, hq, st⟩
  · dsimp only [Pt.U, Pt.locs, Pt.cells, Pt.slots] at X' e1 e2 h1 h2 h3 st hcl
    subst h1; subst h2; subst h3
    exact Or.inr ⟨q, (T.setVm vm₁).calling g' mk As.toArray, t, U', L, E, ce, hT, X', hL, e1, e2, hq, hce, hcv, vx_cls hW₁ hcl, st⟩
end
end VXH
theorem vx_ofWH {l : Launch} {y : MethodName} {ws ws' : List Cond} {rm : Room} {Pc : Array Value → State → Prop} {Qc : Array Value → State → Outcome → State → Prop} {XC : String → State → State → Prop} {mc ms : Nat} {free : Addr → Prop} {cc : ByteArray} {maxL : Nat} {ret : Option FieldType} {hh : List (Nat × Nat × Nat × Nat)}
    (hy : plainName y.cls = true) (hw : ws = Cond.codeWith y cc maxL ret hh :: ws')
    (body : ∀ p e s m args below meth c s₁, BodyLoose p l y (headSpec ws rm) cc maxL ret e s m args below meth c s₁ → c.maxLocals = maxL → Pc args s →
      W p l e (headSpec ws rm).room s m args below meth c s.heap [] 0 0 (vx_MQ below Qc XC args s mc ms free) (entryFrame m args maxL)) : vx_Met l y ws rm Pc Qc XC mc ms free := by
  refine MetFree.of_bodyS (code := cc) (maxLocals := maxL) (ret := ret) hy ?_ ?_
  · intro args s m h hn
    obtain ⟨m9, meth, c, hn9, h1, h2, h3, h4, -, h5, h6, -⟩ := Cond.codeWith_spec (atoms_spec (ws := ws) h _ (by rw [hw]; exact List.mem_cons_self))
    cases hn.symm.trans hn9
    exact ⟨meth, c, h1, h2, h3, h4, h5, h6⟩
  · intro p e s m args below meth c s₁ B hml hP _
    have hh0 : s₁.heap = s.heap := by rw [B.state]; rfl
    obtain ⟨t, a1, o, b1, b2, b3⟩ := body p e s m args below meth c s₁ B hml hP s₁ hh0 (Stand.of_body B)
    exact ⟨t, o, a1, b1, b2, b3⟩
/-! ===== END ===== -/

/-! ===== BEGIN a private method of a nest mate that may throw (follows va_callVN, va_callSN, va_runVN, va_runSN) ===== -/
section
variable {p : Program} {l : Launch} {e : Env} {R : Room} {s : State} {m : MethodId} {args : Array Value} {below : List Frame} {meth : Method} {c : Code} {H : Heap} {locs : List Loc} {cells slots : Nat}
variable {T : State}
theorem vx_callVN (X : Stand p l e R s m args below meth c T locs cells slots) (hexec : p.tables.exec = Jvm.exec) {own C : String} {index : Nat} {host : String} {y : MethodName} {bytes : ByteArray} {maxL : Nat} {ret : Option FieldType}
    (hown : s.vm.findClass own = some m.cls) (hlink : (Cond.methodLinkNest own index y host).before args s = true) (hinst : (Cond.instanceMethod y).before args s = true) (hsel : (Cond.selects C y y).before args s = true)
    (hcode : (Cond.code y bytes maxL ret).before args s = true) (hy : y.cls ≠ "java/lang/invoke/MethodHandle" ∧ y.cls ≠ "java/lang/invoke/VarHandle")
    {W : Nat} {Pre : Pt → Array Value → Prop} {Post : Pt → Array Value → Option Value → Pt → Prop} {PostX : Pt → Array Value → Addr → Pt → Prop} (hK : vx_Back l R p e below s args y 3 W Pre Post PostX)
    {b : Addr} {cellB : Cell} (hcell : T.heap[b]? = some cellB) (hobj : cellB.vm.isStatics = false) (hcls : s.vm.findClass C = some cellB.cls)
    {g : JFrame} (hg : g.method = m) (hsize : g.locals.size = c.maxLocals) {argsL rest : List Value} (hlen : ∀ sig, parseMethodDescriptor y.desc = some sig → argsL.length = sig.parameters.length)
    (hstack : g.stack = argsL.reverse ++ .ref b :: rest) (hW : 2 * g.monitorRoom + (rest.map fun v => v.category).sum ≤ W) (hdg : decode c.code g.pc = .ok (.invokevirtual index, 3))
    (hpre : ∀ vm₁, s.WarmedH vm₁ → Pre ⟨T.setVm vm₁, locs, cells, slots⟩ (Value.ref b :: argsL).toArray) :
    (∃ (v : Option Value) (vm₁ : Vm) (B : Pt), s.WarmedH vm₁ ∧ Stand p l e R s m args below meth c B.U B.locs B.cells B.slots ∧ Post ⟨T.setVm vm₁, locs, cells, slots⟩ (Value.ref b :: argsL).toArray v B ∧
      ∀ target, Steps p.tables e below (B.U.setTop { g with pc := g.pc + 3, stack := v.toList ++ rest }) target → Steps p.tables e below (T.setTop g) target) ∨
    (∃ (q : Addr) (vm₁ : Vm) (B : Pt), s.WarmedH vm₁ ∧ Stand p l e R s m args below meth c B.U B.locs B.cells B.slots ∧ PostX ⟨T.setVm vm₁, locs, cells, slots⟩ (Value.ref b :: argsL).toArray q B ∧
      Steps p.tables e below (T.setTop g) ((B.U.setTop { g with stack := rest }).pushFrame (.throwing q))) := by
  obtain ⟨mk, methM, hnamed, hmethM, hstM, habM⟩ := Cond.instanceMethod_spec hinst
  obtain ⟨methM', cM, hmethM', -, -, -, -, -, -, hsigM⟩ := Cond.code_spec hnamed hcode
  cases hmethM.symm.trans hmethM'
  obtain ⟨c2, r2, m2, q1, q2, q3, q4, kP, hkP, hkPi⟩ := Cond.selects_spec hsel
  cases hcls.symm.trans q1
  cases (State.methodFound?_of_named hnamed hy).symm.trans q2
  cases hnamed.symm.trans q3
  have hselP : selectMethod e.platform s.vm cellB.cls mk = .method mk := by rw [Launch.admits_selectMethod X.admits]; exact q4
  obtain ⟨vm₁, X₁, hstep₁⟩ := X.invokevirtualNest hexec hown hlink hnamed hmethM hstM hkP hkPi hy (a := b) (cell := cellB) hcell
    (fun z h => by rw [h] at hobj; cases hobj) hselP hmethM habM hkP hkPi (g := g) hg (argsL := argsL) (rest := rest) (hlen _ hsigM) hstack hdg
  rcases hK m meth c ⟨T.setVm vm₁, locs, cells, slots⟩ { g with stack := rest } (.invokevirtual index) mk (Value.ref b :: argsL).toArray X₁ hg hsize hdg hW (X₁.named hnamed) (hpre vm₁ X₁.warmed) with ⟨v, B, X', hpost, hsteps⟩ | ⟨q, B, X', hpost, hsteps⟩
  · exact Or.inl ⟨v, vm₁, B, X₁.warmed, X', hpost, fun target h => hstep₁ _ fun acts => by rw [doInvoke_state]; exact hsteps.trans h⟩
  · exact Or.inr ⟨q, vm₁, B, X₁.warmed, X', hpost, hstep₁ _ fun acts => by rw [doInvoke_state]; exact hsteps⟩
theorem vx_callSN (X : Stand p l e R s m args below meth c T locs cells slots) (hexec : p.tables.exec = Jvm.exec) {own : String} {index : Nat} {host : String} {y : MethodName} {bytes : ByteArray} {maxL : Nat} {ret : Option FieldType}
    (hown : s.vm.findClass own = some m.cls) (hlink : (Cond.methodLinkNest own index y host).before args s = true) (hstat : (Cond.static y).before args s = true) (hinit : (Cond.initialized y.cls).before args s = true)
    (hcode : (Cond.code y bytes maxL ret).before args s = true) (hy : y.cls ≠ "java/lang/invoke/MethodHandle" ∧ y.cls ≠ "java/lang/invoke/VarHandle")
    {W : Nat} {Pre : Pt → Array Value → Prop} {Post : Pt → Array Value → Option Value → Pt → Prop} {PostX : Pt → Array Value → Addr → Pt → Prop} (hK : vx_Back l R p e below s args y 3 W Pre Post PostX)
    {g : JFrame} (hg : g.method = m) (hsize : g.locals.size = c.maxLocals) {argsL rest : List Value} (hlen : ∀ sig, parseMethodDescriptor y.desc = some sig → argsL.length = sig.parameters.length)
    (hstack : g.stack = argsL.reverse ++ rest) (hW : 2 * g.monitorRoom + (rest.map fun v => v.category).sum ≤ W) (hdg : decode c.code g.pc = .ok (.invokestatic index, 3))
    (hpre : ∀ vm₁, s.WarmedH vm₁ → Pre ⟨T.setVm vm₁, locs, cells, slots⟩ argsL.toArray) :
    (∃ (v : Option Value) (vm₁ : Vm) (B : Pt), s.WarmedH vm₁ ∧ Stand p l e R s m args below meth c B.U B.locs B.cells B.slots ∧ Post ⟨T.setVm vm₁, locs, cells, slots⟩ argsL.toArray v B ∧
      ∀ target, Steps p.tables e below (B.U.setTop { g with pc := g.pc + 3, stack := v.toList ++ rest }) target → Steps p.tables e below (T.setTop g) target) ∨
    (∃ (q : Addr) (vm₁ : Vm) (B : Pt), s.WarmedH vm₁ ∧ Stand p l e R s m args below meth c B.U B.locs B.cells B.slots ∧ PostX ⟨T.setVm vm₁, locs, cells, slots⟩ argsL.toArray q B ∧
      Steps p.tables e below (T.setTop g) ((B.U.setTop { g with stack := rest }).pushFrame (.throwing q))) := by
  obtain ⟨mk, hnamed⟩ := Cond.code_named hcode
  obtain ⟨methM, cM, hmethM, -, -, -, -, -, -, hsigM⟩ := Cond.code_spec hnamed hcode
  have hstatic : methM.isStatic = true := Cond.static_spec hnamed hmethM hstat
  obtain ⟨kP, hkP, -⟩ := className_of_methodNamed hnamed
  have hinitP : kP.init = .initialized := Cond.initialized_spec (findClass_of_methodNamed hnamed) hkP hinit
  obtain ⟨vm₁, X₁, hstep₁⟩ := X.invokestaticNest hexec hown hlink hnamed hmethM hstatic hkP hinitP hy (g := g) hg (argsL := argsL) (rest := rest) (hlen _ hsigM) hstack hdg
  rcases hK m meth c ⟨T.setVm vm₁, locs, cells, slots⟩ { g with stack := rest } (.invokestatic index) mk argsL.toArray X₁ hg hsize hdg hW (X₁.named hnamed) (hpre vm₁ X₁.warmed) with ⟨v, B, X', hpost, hsteps⟩ | ⟨q, B, X', hpost, hsteps⟩
  · exact Or.inl ⟨v, vm₁, B, X₁.warmed, X', hpost, fun target h => hstep₁ _ fun acts => by rw [doInvoke_state]; exact hsteps.trans h⟩
  · exact Or.inr ⟨q, vm₁, B, X₁.warmed, X', hpost, hstep₁ _ fun acts => by rw [doInvoke_state]; exact hsteps⟩
theorem vx_runVN {y : MethodName} {bytes cc : ByteArray} {maxL nL mc ms n index : Nat} {ret : Option FieldType} {ws : List Cond} {rm : Room} {Pc : Array Value → State → Prop} {Qc : Array Value → State → Outcome → State → Prop} {XC : String → State → State → Prop} {free : Addr → Prop} {Ts : List Cond} {own C host : String} {b : Addr} {As rest : List Value} {g : JFrame}
    (S : CallFix p m c cc nL s args Ts own) (hM : vx_Met l y ws rm Pc Qc XC mc ms free) (cw : va_CN R s args own index y host bytes maxL ret ws rm mc ms n ∧ (Cond.instanceMethod y).before args s = true ∧ (Cond.selects C y y).before args s = true) (hp : PreV s H C b Pc As)
    (hg : g.method = m) (hn : As.length = n) (hsize : g.locals.size = nL) (hstack : g.stack = As.reverse ++ .ref b :: rest) (hW : 2 * g.monitorRoom + (rest.map fun v => v.category).sum ≤ 8) (hdg : decode cc g.pc = .ok (.invokevirtual index, 3)) (hf : cells + mc ≤ R.cells ∧ slots + ms ≤ R.slots) :
    vx_Run p l e R s m args below meth c H locs cells slots mc ms g rest (Qc (Value.ref b :: As).toArray) XC free := by
  obtain ⟨⟨⟨hrc, hrs, hfr, hlo, hws, hcw⟩, hcode, hini, hy, hlen, hl⟩, hx1, hx2⟩ := cw
  have hK : vx_Back l R p e below s args y 3 8 (PreOf R mc ms Pc) (PostOf Qc mc ms free) (vx_Post XC mc ms free) := vx_back (bytes := bytes) (maxL := maxL) (ret := ret) hM hp.1 hrc hrs hfr hlo hws hcw (fun a' U hW => word_at hW (Or.inl (by first | rfl | simp [Cond.onTables, Cond.keeps, Cond.steady])) hini)
  obtain ⟨hx, hb, hml, ho, -⟩ := S
  obtain ⟨-, ⟨cellB, hcB, hoB, hclB⟩, hPc⟩ := hp
  intro T hT X
  rcases vx_callVN X hx (C := C) (bytes := bytes) (maxL := maxL) (ret := ret) ho hl hx1 hx2 hcode hy hK (by rw [hT]; exact hcB) hoB hclB hg (hsize.trans hml.symm) (argsL := As) (rest := rest) (fun sig h => hn.trans (hlen sig h)) hstack hW (by rw [hb]; exact hdg)
    (fun vm₁ hW₁ => ⟨hf.1, hf.2, hPc (T.setVm vm₁) hT hW₁⟩) with ⟨v, vm₁, ⟨U', l2, c2, s2⟩, hW₁, X', ⟨g', mk, t, L, e1, e2, hq, h1, hL, h2, h3⟩, st⟩ | ⟨q, vm₁, ⟨U', l2, c2, s2⟩, hW₁, X', ⟨g', mk, t, L, E, ce, e1, e2, hq, hce, hcv, hcl, h1, hL, h2, h3⟩, st⟩
  · dsimp only [Pt.U, Pt.locs, Pt.cells, Pt.slots] at X' e1 e2 h1 h2 h3 st
    subst h1; subst h2; subst h3
    exact Or.inl ⟨v, (T.setVm vm₁).calling g' mk (Value.ref b :: As).toArray, t, U', L, hT, X', hL, e1, e2, hq, st⟩
  · dsimp only [Pt.U, Pt.locs, Pt.cells, Pt.slots] at X' e1 e2 h1 h2 h3 st hcl
    subst h1; subst h2; subst h3
    exact Or.inr ⟨q, (T.setVm vm₁).calling g' mk (Value.ref b :: As).toArray, t, U', L, E, ce, hT, X', hL, e1, e2, hq, hce, hcv, vx_cls hW₁ hcl, st⟩
theorem vx_runSN {y : MethodName} {bytes cc : ByteArray} {maxL nL mc ms n index : Nat} {ret : Option FieldType} {ws : List Cond} {rm : Room} {Pc : Array Value → State → Prop} {Qc : Array Value → State → Outcome → State → Prop} {XC : String → State → State → Prop} {free : Addr → Prop} {Ts : List Cond} {own host : String} {As rest : List Value} {g : JFrame}
    (S : CallFix p m c cc nL s args Ts own) (hM : vx_Met l y ws rm Pc Qc XC mc ms free) (cw : va_CN R s args own index y host bytes maxL ret ws rm mc ms n ∧ (Cond.static y).before args s = true ∧ True) (hp : PreS s H Pc As)
    (hg : g.method = m) (hn : As.length = n) (hsize : g.locals.size = nL) (hstack : g.stack = As.reverse ++ rest) (hW : 2 * g.monitorRoom + (rest.map fun v => v.category).sum ≤ 8) (hdg : decode cc g.pc = .ok (.invokestatic index, 3)) (hf : cells + mc ≤ R.cells ∧ slots + ms ≤ R.slots) :
    vx_Run p l e R s m args below meth c H locs cells slots mc ms g rest (Qc As.toArray) XC free := by
  obtain ⟨⟨⟨hrc, hrs, hfr, hlo, hws, hcw⟩, hcode, hini, hy, hlen, hl⟩, hx1, hx2⟩ := cw
  have hK : vx_Back l R p e below s args y 3 8 (PreOf R mc ms Pc) (PostOf Qc mc ms free) (vx_Post XC mc ms free) := vx_back (bytes := bytes) (maxL := maxL) (ret := ret) hM hp.1 hrc hrs hfr hlo hws hcw (fun a' U hW => word_at hW (Or.inl (by first | rfl | simp [Cond.onTables, Cond.keeps, Cond.steady])) hini)
  obtain ⟨hx, hb, hml, ho, -⟩ := S
  have hPc := hp.2
  intro T hT X
  rcases vx_callSN X hx (bytes := bytes) (maxL := maxL) (ret := ret) ho hl hx1 hini hcode hy hK hg (hsize.trans hml.symm) (argsL := As) (rest := rest) (fun sig h => hn.trans (hlen sig h)) hstack hW (by rw [hb]; exact hdg)
    (fun vm₁ hW₁ => ⟨hf.1, hf.2, hPc (T.setVm vm₁) hT hW₁⟩) with ⟨v, vm₁, ⟨U', l2, c2, s2⟩, hW₁, X', ⟨g', mk, t, L, e1, e2, hq, h1, hL, h2, h3⟩, st⟩ | ⟨q, vm₁, ⟨U', l2, c2, s2⟩, hW₁, X', ⟨g', mk, t, L, E, ce, e1, e2, hq, hce, hcv, hcl, h1, hL, h2, h3⟩, st⟩
  · dsimp only [Pt.U, Pt.locs, Pt.cells, Pt.slots] at X' e1 e2 h1 h2 h3 st
    subst h1; subst h2; subst h3
    exact Or.inl ⟨v, (T.setVm vm₁).calling g' mk As.toArray, t, U', L, hT, X', hL, e1, e2, hq, st⟩
  · dsimp only [Pt.U, Pt.locs, Pt.cells, Pt.slots] at X' e1 e2 h1 h2 h3 st hcl
    subst h1; subst h2; subst h3
    exact Or.inr ⟨q, (T.setVm vm₁).calling g' mk As.toArray, t, U', L, E, ce, hT, X', hL, e1, e2, hq, hce, hcv, vx_cls hW₁ hcl, st⟩
end
/-! ===== END ===== -/
def RX0 : String := "ComponentContainer$Descriptions"
def TX0 : u_T := fun k => match k with
  | 0 => ("ComponentContainer$Descriptions", "properties", "[[I", true)
  | 1 => ("ComponentContainer$Descriptions", "dependencies", "[[I", true)
  | 2 => ("ComponentContainer$Descriptions", "dependencyCounts", "[I", true)
  | 3 => ("ComponentContainer$Descriptions", "count", "I", false)
  | _ => ("ComponentContainer$Descriptions", "profilesOn", "I", false)
def tyX0 : Nat → FieldType := fun k => match k with
  | 0 => .array (.array .int)
  | 1 => .array (.array .int)
  | 2 => .array .int
  | 3 => .int
  | _ => .int
abbrev wsX00 : List Cond := u_ws RX0 TX0 5
theorem nmX0 : ∀ a, a < 5 → ∀ b, b < 5 → a ≠ b → (TX0 a).2.1 ≠ (TX0 b).2.1 := by decide +kernel
theorem tyX0_ok : ∀ k, k < 5 → parseFieldDescriptor (TX0 k).2.2.1 = some (tyX0 k) := by decide +kernel
abbrev cX0_init : ByteArray := prog_2_method_1_code
def yX0_init : MethodName := ⟨RX0, "<init>", "()V"⟩
abbrev cX0_append : ByteArray := prog_2_method_2_code
def yX0_append : MethodName := ⟨RX0, "append", "(II)I"⟩
abbrev cX0_appendDependency : ByteArray := prog_2_method_3_code
def yX0_appendDependency : MethodName := ⟨RX0, "appendDependency", "(IIII)I"⟩
abbrev cX0_hasDependency : ByteArray := prog_2_method_4_code
def yX0_hasDependency : MethodName := ⟨RX0, "hasDependency", "(II)Z"⟩
abbrev cX0_partOf : ByteArray := prog_2_method_5_code
def yX0_partOf : MethodName := ⟨RX0, "partOf", "(III)I"⟩
abbrev cX0_turnProfile : ByteArray := prog_2_method_6_code
def yX0_turnProfile : MethodName := ⟨RX0, "turnProfile", "(IZ)V"⟩
abbrev cX0_isActive : ByteArray := prog_2_method_7_code
def yX0_isActive : MethodName := ⟨RX0, "isActive", "(I)Z"⟩
abbrev cX0_isStarted : ByteArray := prog_2_method_8_code
def yX0_isStarted : MethodName := ⟨RX0, "isStarted", "(I)Z"⟩
abbrev cX0_provides : ByteArray := prog_2_method_9_code
def yX0_provides : MethodName := ⟨RX0, "provides", "(III)Z"⟩
abbrev cX0_candidateMask : ByteArray := prog_2_method_10_code
def yX0_candidateMask : MethodName := ⟨RX0, "candidateMask", "(II)I"⟩
abbrev cX0_candidatesFor : ByteArray := prog_2_method_11_code
def yX0_candidatesFor : MethodName := ⟨RX0, "candidatesFor", "(II)I"⟩
abbrev cX0_choiceAmong : ByteArray := prog_2_method_12_code
def yX0_choiceAmong : MethodName := ⟨RX0, "choiceAmong", "(I)I"⟩
abbrev cX0_singleIn : ByteArray := prog_2_method_13_code
def yX0_singleIn : MethodName := ⟨RX0, "singleIn", "(I)I"⟩
abbrev cX0_primaryMask : ByteArray := prog_2_method_14_code
def yX0_primaryMask : MethodName := ⟨RX0, "primaryMask", "()I"⟩
abbrev cX0_directNeeds : ByteArray := prog_2_method_15_code
def yX0_directNeeds : MethodName := ⟨RX0, "directNeeds", "(I)I"⟩
abbrev cX0_needsOfDependency : ByteArray := prog_2_method_16_code
def yX0_needsOfDependency : MethodName := ⟨RX0, "needsOfDependency", "(II)I"⟩
abbrev cX0_allNeeds : ByteArray := prog_2_method_17_code
def yX0_allNeeds : MethodName := ⟨RX0, "allNeeds", "(I)I"⟩
def RX1 : String := "ComponentContainer$Failure"
def TX1 : u_T := fun k => match k with
  | 0 => ("ComponentContainer$Failure", "kind", "I", false)
  | 1 => ("ComponentContainer$Failure", "detail", "I", false)
  | 2 => ("ComponentContainer$Failure", "chain", "[I", true)
  | _ => ("ComponentContainer$Failure", "chainLength", "I", false)
def tyX1 : Nat → FieldType := fun k => match k with
  | 0 => .int
  | 1 => .int
  | 2 => .array .int
  | _ => .int
abbrev wsX10 : List Cond := u_ws RX1 TX1 4
theorem nmX1 : ∀ a, a < 4 → ∀ b, b < 4 → a ≠ b → (TX1 a).2.1 ≠ (TX1 b).2.1 := by decide +kernel
theorem tyX1_ok : ∀ k, k < 4 → parseFieldDescriptor (TX1 k).2.2.1 = some (tyX1 k) := by decide +kernel
abbrev cX1_init : ByteArray := prog_3_method_1_code
def yX1_init : MethodName := ⟨RX1, "<init>", "()V"⟩
abbrev cX1_remember : ByteArray := prog_3_method_2_code
def yX1_remember : MethodName := ⟨RX1, "remember", "(II[II)V"⟩
def RX2 : String := "ComponentContainer$Ledger"
def TX2 : u_T := fun k => match k with
  | 0 => ("ComponentContainer$Ledger", "components", "[I", true)
  | 1 => ("ComponentContainer$Ledger", "places", "[I", true)
  | 2 => ("ComponentContainer$Ledger", "living", "[Z", true)
  | 3 => ("ComponentContainer$Ledger", "injections", "[I", true)
  | 4 => ("ComponentContainer$Ledger", "injectionCounts", "[I", true)
  | 5 => ("ComponentContainer$Ledger", "count", "I", false)
  | 6 => ("ComponentContainer$Ledger", "kept", "[[I", true)
  | 7 => ("ComponentContainer$Ledger", "completedOf", "[I", true)
  | 8 => ("ComponentContainer$Ledger", "events", "[I", true)
  | _ => ("ComponentContainer$Ledger", "eventCount", "I", false)
def tyX2 : Nat → FieldType := fun k => match k with
  | 0 => .array .int
  | 1 => .array .int
  | 2 => .array .boolean
  | 3 => .array .int
  | 4 => .array .int
  | 5 => .int
  | 6 => .array (.array .int)
  | 7 => .array .int
  | 8 => .array .int
  | _ => .int
abbrev wsX20 : List Cond := u_ws RX2 TX2 10
theorem nmX2 : ∀ a, a < 10 → ∀ b, b < 10 → a ≠ b → (TX2 a).2.1 ≠ (TX2 b).2.1 := by decide +kernel
theorem tyX2_ok : ∀ k, k < 10 → parseFieldDescriptor (TX2 k).2.2.1 = some (tyX2 k) := by decide +kernel
abbrev cX2_init : ByteArray := prog_4_method_1_code
def yX2_init : MethodName := ⟨RX2, "<init>", "()V"⟩
abbrev cX2_append : ByteArray := prog_4_method_2_code
def yX2_append : MethodName := ⟨RX2, "append", "(II[II)I"⟩
abbrev cX2_hasInjection : ByteArray := prog_4_method_3_code
def yX2_hasInjection : MethodName := ⟨RX2, "hasInjection", "(II)Z"⟩
abbrev cX2_destroyAllIn : ByteArray := prog_4_method_4_code
def yX2_destroyAllIn : MethodName := ⟨RX2, "destroyAllIn", "(I)I"⟩
abbrev cX2_destroyPrototypesFrom : ByteArray := prog_4_method_5_code
def yX2_destroyPrototypesFrom : MethodName := ⟨RX2, "destroyPrototypesFrom", "(I)V"⟩
abbrev cX2_destroyFrom : ByteArray := prog_4_method_6_code
def yX2_destroyFrom : MethodName := ⟨RX2, "destroyFrom", "(II)I"⟩
abbrev cX2_destroy : ByteArray := prog_4_method_7_code
def yX2_destroy : MethodName := ⟨RX2, "destroy", "(I)V"⟩
abbrev cX2_recordEvent : ByteArray := prog_4_method_8_code
def yX2_recordEvent : MethodName := ⟨RX2, "recordEvent", "(I)V"⟩
def RX3 : String := "ComponentContainer"
def TX3 : u_T := fun k => match k with
  | 0 => ("ComponentContainer", "descriptions", "LComponentContainer$Descriptions;", true)
  | 1 => ("ComponentContainer", "ledger", "LComponentContainer$Ledger;", true)
  | 2 => ("ComponentContainer", "failure", "LComponentContainer$Failure;", true)
  | 3 => ("ComponentContainer", "openScopes", "I", false)
  | 4 => ("ComponentContainer", "chain", "[I", true)
  | 5 => ("ComponentContainer", "injecting", "[[I", true)
  | _ => ("ComponentContainer", "soundComponents", "I", false)
def tyX3 : Nat → FieldType := fun k => match k with
  | 0 => .object "ComponentContainer$Descriptions"
  | 1 => .object "ComponentContainer$Ledger"
  | 2 => .object "ComponentContainer$Failure"
  | 3 => .int
  | 4 => .array .int
  | 5 => .array (.array .int)
  | _ => .int
abbrev wsX30 : List Cond := u_ws RX3 TX3 7
theorem nmX3 : ∀ a, a < 7 → ∀ b, b < 7 → a ≠ b → (TX3 a).2.1 ≠ (TX3 b).2.1 := by decide +kernel
theorem tyX3_ok : ∀ k, k < 7 → parseFieldDescriptor (TX3 k).2.2.1 = some (tyX3 k) := by decide +kernel
abbrev cX3_init : ByteArray := prog_1_method_1_code
def yX3_init : MethodName := ⟨RX3, "<init>", "()V"⟩
abbrev cX3_add : ByteArray := prog_1_method_2_code
def yX3_add : MethodName := ⟨RX3, "add", "(II)I"⟩
abbrev cX3_set : ByteArray := prog_1_method_3_code
def yX3_set : MethodName := ⟨RX3, "set", "(III)I"⟩
abbrev cX3_property : ByteArray := prog_1_method_4_code
def yX3_property : MethodName := ⟨RX3, "property", "(II)I"⟩
abbrev cX3_depend : ByteArray := prog_1_method_5_code
def yX3_depend : MethodName := ⟨RX3, "depend", "(IIII)I"⟩
abbrev cX3_clear : ByteArray := prog_1_method_6_code
def yX3_clear : MethodName := ⟨RX3, "clear", "(I)I"⟩
abbrev cX3_dependency : ByteArray := prog_1_method_7_code
def yX3_dependency : MethodName := ⟨RX3, "dependency", "(III)I"⟩
abbrev cX3_profile : ByteArray := prog_1_method_8_code
def yX3_profile : MethodName := ⟨RX3, "profile", "(IZ)Z"⟩
abbrev cX3_components : ByteArray := prog_1_method_9_code
def yX3_components : MethodName := ⟨RX3, "components", "()I"⟩
abbrev cX3_candidates : ByteArray := prog_1_method_10_code
def yX3_candidates : MethodName := ⟨RX3, "candidates", "(II)I"⟩
abbrev cX3_chosen : ByteArray := prog_1_method_11_code
def yX3_chosen : MethodName := ⟨RX3, "chosen", "(II)I"⟩
abbrev cX3_problem : ByteArray := prog_1_method_12_code
def yX3_problem : MethodName := ⟨RX3, "problem", "(I)I"⟩
abbrev cX3_needs : ByteArray := prog_1_method_13_code
def yX3_needs : MethodName := ⟨RX3, "needs", "(I)I"⟩
abbrev cX3_resolve : ByteArray := prog_1_method_14_code
def yX3_resolve : MethodName := ⟨RX3, "resolve", "(II)I"⟩
abbrev cX3_provide : ByteArray := prog_1_method_15_code
def yX3_provide : MethodName := ⟨RX3, "provide", "(II)I"⟩
abbrev cX3_start : ByteArray := prog_1_method_16_code
def yX3_start : MethodName := ⟨RX3, "start", "()I"⟩
abbrev cX3_begin : ByteArray := prog_1_method_17_code
def yX3_begin : MethodName := ⟨RX3, "begin", "()I"⟩
abbrev cX3_end : ByteArray := prog_1_method_18_code
def yX3_end : MethodName := ⟨RX3, "end", "()I"⟩
abbrev cX3_close : ByteArray := prog_1_method_19_code
def yX3_close : MethodName := ⟨RX3, "close", "()I"⟩
abbrev cX3_instances : ByteArray := prog_1_method_20_code
def yX3_instances : MethodName := ⟨RX3, "instances", "()I"⟩
abbrev cX3_componentOf : ByteArray := prog_1_method_21_code
def yX3_componentOf : MethodName := ⟨RX3, "componentOf", "(I)I"⟩
abbrev cX3_isAlive : ByteArray := prog_1_method_22_code
def yX3_isAlive : MethodName := ⟨RX3, "isAlive", "(I)Z"⟩
abbrev cX3_injected : ByteArray := prog_1_method_23_code
def yX3_injected : MethodName := ⟨RX3, "injected", "(II)I"⟩
abbrev cX3_event : ByteArray := prog_1_method_24_code
def yX3_event : MethodName := ⟨RX3, "event", "(I)I"⟩
abbrev cX3_failureKind : ByteArray := prog_1_method_25_code
def yX3_failureKind : MethodName := ⟨RX3, "failureKind", "()I"⟩
abbrev cX3_failureDetail : ByteArray := prog_1_method_26_code
def yX3_failureDetail : MethodName := ⟨RX3, "failureDetail", "()I"⟩
abbrev cX3_failureChain : ByteArray := prog_1_method_27_code
def yX3_failureChain : MethodName := ⟨RX3, "failureChain", "(I)I"⟩
abbrev cX3_isBetween : ByteArray := prog_1_method_28_code
def yX3_isBetween : MethodName := ⟨RX3, "isBetween", "(III)Z"⟩
abbrev cX3_isPropertyValue : ByteArray := prog_1_method_29_code
def yX3_isPropertyValue : MethodName := ⟨RX3, "isPropertyValue", "(II)Z"⟩
abbrev cX3_requireComponent : ByteArray := prog_1_method_30_code
def yX3_requireComponent : MethodName := ⟨RX3, "requireComponent", "(I)V"⟩
abbrev cX3_requireInstance : ByteArray := prog_1_method_31_code
def yX3_requireInstance : MethodName := ⟨RX3, "requireInstance", "(I)V"⟩
abbrev cX3_requireProperty : ByteArray := prog_1_method_32_code
def yX3_requireProperty : MethodName := ⟨RX3, "requireProperty", "(I)V"⟩
abbrev cX3_requireTypeAndQualifier : ByteArray := prog_1_method_33_code
def yX3_requireTypeAndQualifier : MethodName := ⟨RX3, "requireTypeAndQualifier", "(II)V"⟩
abbrev cX3_tryConstruction : ByteArray := prog_1_method_34_code
def yX3_tryConstruction : MethodName := ⟨RX3, "tryConstruction", "(II)I"⟩
abbrev cX3_tryDependency : ByteArray := prog_1_method_35_code
def yX3_tryDependency : MethodName := ⟨RX3, "tryDependency", "(III)I"⟩
abbrev cX3_tryEach : ByteArray := prog_1_method_36_code
def yX3_tryEach : MethodName := ⟨RX3, "tryEach", "(II)I"⟩
abbrev cX3_requestOrThrow : ByteArray := prog_1_method_37_code
def yX3_requestOrThrow : MethodName := ⟨RX3, "requestOrThrow", "(II)I"⟩
abbrev cX3_request : ByteArray := prog_1_method_38_code
def yX3_request : MethodName := ⟨RX3, "request", "(III)I"⟩
abbrev cX3_obtain : ByteArray := prog_1_method_39_code
def yX3_obtain : MethodName := ⟨RX3, "obtain", "(II)I"⟩
abbrev cX3_construct : ByteArray := prog_1_method_40_code
def yX3_construct : MethodName := ⟨RX3, "construct", "(III)I"⟩
abbrev cX3_isUnderConstruction : ByteArray := prog_1_method_41_code
def yX3_isUnderConstruction : MethodName := ⟨RX3, "isUnderConstruction", "(II)Z"⟩
abbrev cX3_inject : ByteArray := prog_1_method_42_code
def yX3_inject : MethodName := ⟨RX3, "inject", "(III)I"⟩
abbrev cX3_obtainEach : ByteArray := prog_1_method_43_code
def yX3_obtainEach : MethodName := ⟨RX3, "obtainEach", "(II)I"⟩
abbrev cX3_complete : ByteArray := prog_1_method_44_code
def yX3_complete : MethodName := ⟨RX3, "complete", "(III)I"⟩
abbrev cX3_recordFailure : ByteArray := prog_1_method_45_code
def yX3_recordFailure : MethodName := ⟨RX3, "recordFailure", "(III)I"⟩
abbrev cX3_closeInnermostScope : ByteArray := prog_1_method_46_code
def yX3_closeInnermostScope : MethodName := ⟨RX3, "closeInnermostScope", "()I"⟩
abbrev cX3_isIn : ByteArray := prog_1_method_47_code
def yX3_isIn : MethodName := ⟨RX3, "isIn", "(II)Z"⟩
def RX4 : String := "ComponentContainerModel"
def TX4 : u_T := fun k => match k with
  | 0 => ("ComponentContainerModel", "thrown", "I", false)
  | 1 => ("ComponentContainerModel", "many", "I", false)
  | 2 => ("ComponentContainerModel", "properties", "[I", true)
  | 3 => ("ComponentContainerModel", "dependMany", "[I", true)
  | 4 => ("ComponentContainerModel", "depends", "[I", true)
  | 5 => ("ComponentContainerModel", "completed", "[I", true)
  | 6 => ("ComponentContainerModel", "profiles", "I", false)
  | 7 => ("ComponentContainerModel", "frame", "[I", true)
  | 8 => ("ComponentContainerModel", "frameDepend", "[I", true)
  | 9 => ("ComponentContainerModel", "frameLeft", "[I", true)
  | 10 => ("ComponentContainerModel", "deep", "I", false)
  | 11 => ("ComponentContainerModel", "known", "I", false)
  | 12 => ("ComponentContainerModel", "total", "I", false)
  | 13 => ("ComponentContainerModel", "instanceOf", "[I", true)
  | 14 => ("ComponentContainerModel", "instanceAs", "[I", true)
  | 15 => ("ComponentContainerModel", "instanceScope", "[I", true)
  | 16 => ("ComponentContainerModel", "isLiving", "[Z", true)
  | 17 => ("ComponentContainerModel", "injectedMany", "[I", true)
  | 18 => ("ComponentContainerModel", "injected", "[I", true)
  | 19 => ("ComponentContainerModel", "open", "I", false)
  | 20 => ("ComponentContainerModel", "events", "I", false)
  | 21 => ("ComponentContainerModel", "event", "[I", true)
  | 22 => ("ComponentContainerModel", "kind", "I", false)
  | 23 => ("ComponentContainerModel", "detail", "I", false)
  | 24 => ("ComponentContainerModel", "chainMany", "I", false)
  | 25 => ("ComponentContainerModel", "chain", "[I", true)
  | 26 => ("ComponentContainerModel", "frameAs", "[I", true)
  | 27 => ("ComponentContainerModel", "isAwaiting", "[Z", true)
  | 28 => ("ComponentContainerModel", "frameEvery", "[I", true)
  | 29 => ("ComponentContainerModel", "frameInjected", "[I", true)
  | 30 => ("ComponentContainerModel", "obtained", "I", false)
  | 31 => ("ComponentContainerModel", "failure", "I", false)
  | _ => ("ComponentContainerModel", "failed", "I", false)
def tyX4 : Nat → FieldType := fun k => match k with
  | 0 => .int
  | 1 => .int
  | 2 => .array .int
  | 3 => .array .int
  | 4 => .array .int
  | 5 => .array .int
  | 6 => .int
  | 7 => .array .int
  | 8 => .array .int
  | 9 => .array .int
  | 10 => .int
  | 11 => .int
  | 12 => .int
  | 13 => .array .int
  | 14 => .array .int
  | 15 => .array .int
  | 16 => .array .boolean
  | 17 => .array .int
  | 18 => .array .int
  | 19 => .int
  | 20 => .int
  | 21 => .array .int
  | 22 => .int
  | 23 => .int
  | 24 => .int
  | 25 => .array .int
  | 26 => .array .int
  | 27 => .array .boolean
  | 28 => .array .int
  | 29 => .array .int
  | 30 => .int
  | 31 => .int
  | _ => .int
abbrev wsX40 : List Cond := u_ws RX4 TX4 33
theorem nmX4 : ∀ a, a < 33 → ∀ b, b < 33 → a ≠ b → (TX4 a).2.1 ≠ (TX4 b).2.1 := by decide +kernel
theorem tyX4_ok : ∀ k, k < 33 → parseFieldDescriptor (TX4 k).2.2.1 = some (tyX4 k) := by decide +kernel
abbrev cX4_init : ByteArray := prog_6_method_1_code
def yX4_init : MethodName := ⟨RX4, "<init>", "()V"⟩
abbrev cX4_thrown : ByteArray := prog_6_method_2_code
def yX4_thrown : MethodName := ⟨RX4, "thrown", "()I"⟩
abbrev cX4_in : ByteArray := prog_6_method_3_code
def yX4_in : MethodName := ⟨RX4, "in", "(III)Z"⟩
abbrev cX4_isComponent : ByteArray := prog_6_method_4_code
def yX4_isComponent : MethodName := ⟨RX4, "isComponent", "(I)Z"⟩
abbrev cX4_of : ByteArray := prog_6_method_5_code
def yX4_of : MethodName := ⟨RX4, "of", "(II)I"⟩
abbrev cX4_add : ByteArray := prog_6_method_6_code
def yX4_add : MethodName := ⟨RX4, "add", "(II)I"⟩
abbrev cX4_isValue : ByteArray := prog_6_method_7_code
def yX4_isValue : MethodName := ⟨RX4, "isValue", "(II)Z"⟩
abbrev cX4_set : ByteArray := prog_6_method_8_code
def yX4_set : MethodName := ⟨RX4, "set", "(III)I"⟩
abbrev cX4_property : ByteArray := prog_6_method_9_code
def yX4_property : MethodName := ⟨RX4, "property", "(II)I"⟩
abbrev cX4_isAsked : ByteArray := prog_6_method_10_code
def yX4_isAsked : MethodName := ⟨RX4, "isAsked", "(II)Z"⟩
abbrev cX4_dependAt : ByteArray := prog_6_method_11_code
def yX4_dependAt : MethodName := ⟨RX4, "dependAt", "(III)I"⟩
abbrev cX4_depend : ByteArray := prog_6_method_12_code
def yX4_depend : MethodName := ⟨RX4, "depend", "(IIII)I"⟩
abbrev cX4_clear : ByteArray := prog_6_method_13_code
def yX4_clear : MethodName := ⟨RX4, "clear", "(I)I"⟩
abbrev cX4_dependency : ByteArray := prog_6_method_14_code
def yX4_dependency : MethodName := ⟨RX4, "dependency", "(III)I"⟩
abbrev cX4_profile : ByteArray := prog_6_method_15_code
def yX4_profile : MethodName := ⟨RX4, "profile", "(IZ)Z"⟩
abbrev cX4_components : ByteArray := prog_6_method_16_code
def yX4_components : MethodName := ⟨RX4, "components", "()I"⟩
abbrev cX4_isActive : ByteArray := prog_6_method_17_code
def yX4_isActive : MethodName := ⟨RX4, "isActive", "(I)Z"⟩
abbrev cX4_candidatesFor : ByteArray := prog_6_method_18_code
def yX4_candidatesFor : MethodName := ⟨RX4, "candidatesFor", "(II)I"⟩
abbrev cX4_bits : ByteArray := prog_6_method_19_code
def yX4_bits : MethodName := ⟨RX4, "bits", "(I)I"⟩
abbrev cX4_lowest : ByteArray := prog_6_method_20_code
def yX4_lowest : MethodName := ⟨RX4, "lowest", "(I)I"⟩
abbrev cX4_choose : ByteArray := prog_6_method_21_code
def yX4_choose : MethodName := ⟨RX4, "choose", "(II)I"⟩
abbrev cX4_candidates : ByteArray := prog_6_method_22_code
def yX4_candidates : MethodName := ⟨RX4, "candidates", "(II)I"⟩
abbrev cX4_chosen : ByteArray := prog_6_method_23_code
def yX4_chosen : MethodName := ⟨RX4, "chosen", "(II)I"⟩
abbrev cX4_isInFrames : ByteArray := prog_6_method_24_code
def yX4_isInFrames : MethodName := ⟨RX4, "isInFrames", "(I)Z"⟩
abbrev cX4_push : ByteArray := prog_6_method_25_code
def yX4_push : MethodName := ⟨RX4, "push", "(I)V"⟩
abbrev cX4_wanted : ByteArray := prog_6_method_26_code
def yX4_wanted : MethodName := ⟨RX4, "wanted", "(II)I"⟩
abbrev cX4_wouldGoOn : ByteArray := prog_6_method_27_code
def yX4_wouldGoOn : MethodName := ⟨RX4, "wouldGoOn", "()I"⟩
abbrev cX4_problem : ByteArray := prog_6_method_28_code
def yX4_problem : MethodName := ⟨RX4, "problem", "(I)I"⟩
abbrev cX4_directly : ByteArray := prog_6_method_29_code
def yX4_directly : MethodName := ⟨RX4, "directly", "(I)I"⟩
abbrev cX4_needs : ByteArray := prog_6_method_30_code
def yX4_needs : MethodName := ⟨RX4, "needs", "(I)I"⟩
abbrev cX4_fail : ByteArray := prog_6_method_31_code
def yX4_fail : MethodName := ⟨RX4, "fail", "(II)V"⟩
abbrev cX4_construct : ByteArray := prog_6_method_32_code
def yX4_construct : MethodName := ⟨RX4, "construct", "(II)V"⟩
abbrev cX4_living : ByteArray := prog_6_method_33_code
def yX4_living : MethodName := ⟨RX4, "living", "(II)I"⟩
abbrev cX4_obtain : ByteArray := prog_6_method_34_code
def yX4_obtain : MethodName := ⟨RX4, "obtain", "(I)V"⟩
abbrev cX4_inject : ByteArray := prog_6_method_35_code
def yX4_inject : MethodName := ⟨RX4, "inject", "(II)V"⟩
abbrev cX4_serve : ByteArray := prog_6_method_36_code
def yX4_serve : MethodName := ⟨RX4, "serve", "(I)V"⟩
abbrev cX4_receive : ByteArray := prog_6_method_37_code
def yX4_receive : MethodName := ⟨RX4, "receive", "(I)V"⟩
abbrev cX4_note : ByteArray := prog_6_method_38_code
def yX4_note : MethodName := ⟨RX4, "note", "(I)V"⟩
abbrev cX4_complete : ByteArray := prog_6_method_39_code
def yX4_complete : MethodName := ⟨RX4, "complete", "(I)V"⟩
abbrev cX4_goOn : ByteArray := prog_6_method_40_code
def yX4_goOn : MethodName := ⟨RX4, "goOn", "()V"⟩
abbrev cX4_clean : ByteArray := prog_6_method_41_code
def yX4_clean : MethodName := ⟨RX4, "clean", "()V"⟩
abbrev cX4_destroy : ByteArray := prog_6_method_42_code
def yX4_destroy : MethodName := ⟨RX4, "destroy", "(I)V"⟩
abbrev cX4_make : ByteArray := prog_6_method_43_code
def yX4_make : MethodName := ⟨RX4, "make", "(I)V"⟩
abbrev cX4_settle : ByteArray := prog_6_method_44_code
def yX4_settle : MethodName := ⟨RX4, "settle", "(I)Z"⟩
abbrev cX4_request : ByteArray := prog_6_method_45_code
def yX4_request : MethodName := ⟨RX4, "request", "(II)I"⟩
abbrev cX4_resolve : ByteArray := prog_6_method_46_code
def yX4_resolve : MethodName := ⟨RX4, "resolve", "(II)I"⟩
abbrev cX4_isInstance : ByteArray := prog_6_method_47_code
def yX4_isInstance : MethodName := ⟨RX4, "isInstance", "(I)Z"⟩
abbrev cX4_isLater : ByteArray := prog_6_method_48_code
def yX4_isLater : MethodName := ⟨RX4, "isLater", "(II)Z"⟩
abbrev cX4_provide : ByteArray := prog_6_method_49_code
def yX4_provide : MethodName := ⟨RX4, "provide", "(II)I"⟩
abbrev cX4_start : ByteArray := prog_6_method_50_code
def yX4_start : MethodName := ⟨RX4, "start", "()I"⟩
abbrev cX4_begin : ByteArray := prog_6_method_51_code
def yX4_begin : MethodName := ⟨RX4, "begin", "()I"⟩
abbrev cX4_endScope : ByteArray := prog_6_method_52_code
def yX4_endScope : MethodName := ⟨RX4, "endScope", "()I"⟩
abbrev cX4_end : ByteArray := prog_6_method_53_code
def yX4_end : MethodName := ⟨RX4, "end", "()I"⟩
abbrev cX4_close : ByteArray := prog_6_method_54_code
def yX4_close : MethodName := ⟨RX4, "close", "()I"⟩
abbrev cX4_instances : ByteArray := prog_6_method_55_code
def yX4_instances : MethodName := ⟨RX4, "instances", "()I"⟩
abbrev cX4_componentOf : ByteArray := prog_6_method_56_code
def yX4_componentOf : MethodName := ⟨RX4, "componentOf", "(I)I"⟩
abbrev cX4_isAlive : ByteArray := prog_6_method_57_code
def yX4_isAlive : MethodName := ⟨RX4, "isAlive", "(I)Z"⟩
abbrev cX4_injected : ByteArray := prog_6_method_58_code
def yX4_injected : MethodName := ⟨RX4, "injected", "(II)I"⟩
abbrev cX4_event : ByteArray := prog_6_method_59_code
def yX4_event : MethodName := ⟨RX4, "event", "(I)I"⟩
abbrev cX4_failureKind : ByteArray := prog_6_method_60_code
def yX4_failureKind : MethodName := ⟨RX4, "failureKind", "()I"⟩
abbrev cX4_failureDetail : ByteArray := prog_6_method_61_code
def yX4_failureDetail : MethodName := ⟨RX4, "failureDetail", "()I"⟩
abbrev cX4_failureChain : ByteArray := prog_6_method_62_code
def yX4_failureChain : MethodName := ⟨RX4, "failureChain", "(I)I"⟩
def RJx145de : String := "java/io/Serializable"
def TJx145de : u_T := fun k => match k with
  | _ => ("", "", "", false)
def tyJx145de : Nat → FieldType := fun k => match k with
  | _ => .int
abbrev wsJx145de0 : List Cond := u_ws RJx145de TJx145de 0
theorem nmJx145de : ∀ a, a < 0 → ∀ b, b < 0 → a ≠ b → (TJx145de a).2.1 ≠ (TJx145de b).2.1 := by decide +kernel
theorem tyJx145de_ok : ∀ k, k < 0 → parseFieldDescriptor (TJx145de k).2.2.1 = some (tyJx145de k) := by decide +kernel
def RJ0 : String := "java/lang/String"
def TJ0 : u_T := fun k => match k with
  | _ => ("", "", "", false)
def tyJ0 : Nat → FieldType := fun k => match k with
  | _ => .int
abbrev wsJ00 : List Cond := u_ws RJ0 TJ0 0
theorem nmJ0 : ∀ a, a < 0 → ∀ b, b < 0 → a ≠ b → (TJ0 a).2.1 ≠ (TJ0 b).2.1 := by decide +kernel
theorem tyJ0_ok : ∀ k, k < 0 → parseFieldDescriptor (TJ0 k).2.2.1 = some (tyJ0 k) := by decide +kernel
def RJ10 : String := "java/lang/System"
def TJ10 : u_T := fun k => match k with
  | _ => ("", "", "", false)
def tyJ10 : Nat → FieldType := fun k => match k with
  | _ => .int
abbrev wsJ100 : List Cond := u_ws RJ10 TJ10 0
theorem nmJ10 : ∀ a, a < 0 → ∀ b, b < 0 → a ≠ b → (TJ10 a).2.1 ≠ (TJ10 b).2.1 := by decide +kernel
theorem tyJ10_ok : ∀ k, k < 0 → parseFieldDescriptor (TJ10 k).2.2.1 = some (tyJ10 k) := by decide +kernel
def RJ7 : String := "java/util/Arrays"
def TJ7 : u_T := fun k => match k with
  | _ => ("", "", "", false)
def tyJ7 : Nat → FieldType := fun k => match k with
  | _ => .int
abbrev wsJ70 : List Cond := u_ws RJ7 TJ7 0
theorem nmJ7 : ∀ a, a < 0 → ∀ b, b < 0 → a ≠ b → (TJ7 a).2.1 ≠ (TJ7 b).2.1 := by decide +kernel
theorem tyJ7_ok : ∀ k, k < 0 → parseFieldDescriptor (TJ7 k).2.2.1 = some (tyJ7 k) := by decide +kernel
abbrev cJ7_fill_53178 : ByteArray := prog_15_method_103_code
def yJ7_fill_53178 : MethodName := ⟨RJ7, "fill", "([II)V"⟩
def RL : String := "ComponentContainerLaw"
abbrev cL_add : ByteArray := method_3_code
def yL_add : MethodName := ⟨RL, "add", "(LComponentContainer;II[J)I"⟩
abbrev cL_set : ByteArray := method_4_code
def yL_set : MethodName := ⟨RL, "set", "(LComponentContainer;III[J)I"⟩
abbrev cL_property : ByteArray := method_5_code
def yL_property : MethodName := ⟨RL, "property", "(LComponentContainer;II[J)I"⟩
abbrev cL_depend : ByteArray := method_6_code
def yL_depend : MethodName := ⟨RL, "depend", "(LComponentContainer;IIII[J)I"⟩
abbrev cL_clear : ByteArray := method_7_code
def yL_clear : MethodName := ⟨RL, "clear", "(LComponentContainer;I[J)I"⟩
abbrev cL_dependency : ByteArray := method_8_code
def yL_dependency : MethodName := ⟨RL, "dependency", "(LComponentContainer;III[J)I"⟩
abbrev cL_profile : ByteArray := method_9_code
def yL_profile : MethodName := ⟨RL, "profile", "(LComponentContainer;IZ[J)I"⟩
abbrev cL_candidates : ByteArray := method_10_code
def yL_candidates : MethodName := ⟨RL, "candidates", "(LComponentContainer;II[J)I"⟩
abbrev cL_chosen : ByteArray := method_11_code
def yL_chosen : MethodName := ⟨RL, "chosen", "(LComponentContainer;II[J)I"⟩
abbrev cL_problem : ByteArray := method_12_code
def yL_problem : MethodName := ⟨RL, "problem", "(LComponentContainer;I[J)I"⟩
abbrev cL_needs : ByteArray := method_13_code
def yL_needs : MethodName := ⟨RL, "needs", "(LComponentContainer;I[J)I"⟩
abbrev cL_resolve : ByteArray := method_14_code
def yL_resolve : MethodName := ⟨RL, "resolve", "(LComponentContainer;II[J)I"⟩
abbrev cL_provide : ByteArray := method_15_code
def yL_provide : MethodName := ⟨RL, "provide", "(LComponentContainer;II[J)I"⟩
abbrev cL_start : ByteArray := method_16_code
def yL_start : MethodName := ⟨RL, "start", "(LComponentContainer;[J)I"⟩
abbrev cL_begin : ByteArray := method_17_code
def yL_begin : MethodName := ⟨RL, "begin", "(LComponentContainer;[J)I"⟩
abbrev cL_end : ByteArray := method_18_code
def yL_end : MethodName := ⟨RL, "end", "(LComponentContainer;[J)I"⟩
abbrev cL_componentOf : ByteArray := method_19_code
def yL_componentOf : MethodName := ⟨RL, "componentOf", "(LComponentContainer;I[J)I"⟩
abbrev cL_isAlive : ByteArray := method_20_code
def yL_isAlive : MethodName := ⟨RL, "isAlive", "(LComponentContainer;I[J)I"⟩
abbrev cL_injected : ByteArray := method_21_code
def yL_injected : MethodName := ⟨RL, "injected", "(LComponentContainer;II[J)I"⟩
abbrev cL_law : ByteArray := code
def yL_law : MethodName := ⟨RL, "law", "([I)Z"⟩
abbrev vwCl : List vw_C := [(RX0, TX0, 5), (RX1, TX1, 4), (RX2, TX2, 10), (RX3, TX3, 7), (RX4, TX4, 33)]
theorem dX0_init_0 : decode cX0_init 0 = .ok (.aload_n 0, 1) := by decide +kernel
theorem dX0_init_1 : decode cX0_init 1 = .ok (.invokespecial 3, 3) := by decide +kernel
theorem dX0_init_4 : decode cX0_init 4 = .ok (.aload_n 0, 1) := by decide +kernel
theorem dX0_init_5 : decode cX0_init 5 = .ok (.bipush 20, 2) := by decide +kernel
theorem dX0_init_7 : decode cX0_init 7 = .ok (.bipush 7, 2) := by decide +kernel
theorem dX0_init_9 : decode cX0_init 9 = .ok (.multianewarray 9 2, 4) := by decide +kernel
theorem dX0_init_13 : decode cX0_init 13 = .ok (.putfield 11, 3) := by decide +kernel
theorem dX0_init_16 : decode cX0_init 16 = .ok (.aload_n 0, 1) := by decide +kernel
theorem dX0_init_17 : decode cX0_init 17 = .ok (.bipush 20, 2) := by decide +kernel
theorem dX0_init_19 : decode cX0_init 19 = .ok (.bipush 18, 2) := by decide +kernel
theorem dX0_init_21 : decode cX0_init 21 = .ok (.multianewarray 9 2, 4) := by decide +kernel
theorem dX0_init_25 : decode cX0_init 25 = .ok (.putfield 16, 3) := by decide +kernel
theorem dX0_init_28 : decode cX0_init 28 = .ok (.aload_n 0, 1) := by decide +kernel
theorem dX0_init_29 : decode cX0_init 29 = .ok (.bipush 20, 2) := by decide +kernel
theorem dX0_init_31 : decode cX0_init 31 = .ok (.newarray .int, 2) := by decide +kernel
theorem dX0_init_33 : decode cX0_init 33 = .ok (.putfield 19, 3) := by decide +kernel
theorem dX0_init_36 : decode cX0_init 36 = .ok (.aload_n 0, 1) := by decide +kernel
theorem dX0_init_37 : decode cX0_init 37 = .ok (.iconst 0, 1) := by decide +kernel
theorem dX0_init_38 : decode cX0_init 38 = .ok (.putfield 23, 3) := by decide +kernel
theorem dX0_init_41 : decode cX0_init 41 = .ok (.aload_n 0, 1) := by decide +kernel
theorem dX0_init_42 : decode cX0_init 42 = .ok (.iconst 0, 1) := by decide +kernel
theorem dX0_init_43 : decode cX0_init 43 = .ok (.putfield 27, 3) := by decide +kernel
theorem dX0_init_46 : decode cX0_init 46 = .ok (.return_, 1) := by decide +kernel
theorem dX0_append_0 : decode cX0_append 0 = .ok (.aload_n 0, 1) := by decide +kernel
theorem dX0_append_1 : decode cX0_append 1 = .ok (.getfield 11, 3) := by decide +kernel
theorem dX0_append_4 : decode cX0_append 4 = .ok (.aload_n 0, 1) := by decide +kernel
theorem dX0_append_5 : decode cX0_append 5 = .ok (.getfield 23, 3) := by decide +kernel
theorem dX0_append_8 : decode cX0_append 8 = .ok (.aaload, 1) := by decide +kernel
theorem dX0_append_9 : decode cX0_append 9 = .ok (.astore_n 3, 1) := by decide +kernel
theorem dX0_append_10 : decode cX0_append 10 = .ok (.aload_n 3, 1) := by decide +kernel
theorem dX0_append_11 : decode cX0_append 11 = .ok (.iconst 0, 1) := by decide +kernel
theorem dX0_append_12 : decode cX0_append 12 = .ok (.iload_n 1, 1) := by decide +kernel
theorem dX0_append_13 : decode cX0_append 13 = .ok (.iastore, 1) := by decide +kernel
theorem dX0_append_14 : decode cX0_append 14 = .ok (.aload_n 3, 1) := by decide +kernel
theorem dX0_append_15 : decode cX0_append 15 = .ok (.iconst 1, 1) := by decide +kernel
theorem dX0_append_16 : decode cX0_append 16 = .ok (.iload_n 2, 1) := by decide +kernel
theorem dX0_append_17 : decode cX0_append 17 = .ok (.iastore, 1) := by decide +kernel
theorem dX0_append_18 : decode cX0_append 18 = .ok (.aload_n 3, 1) := by decide +kernel
theorem dX0_append_19 : decode cX0_append 19 = .ok (.iconst 2, 1) := by decide +kernel
theorem dX0_append_20 : decode cX0_append 20 = .ok (.iconst (-1), 1) := by decide +kernel
theorem dX0_append_21 : decode cX0_append 21 = .ok (.iastore, 1) := by decide +kernel
theorem dX0_append_22 : decode cX0_append 22 = .ok (.aload_n 3, 1) := by decide +kernel
theorem dX0_append_23 : decode cX0_append 23 = .ok (.iconst 5, 1) := by decide +kernel
theorem dX0_append_24 : decode cX0_append 24 = .ok (.iconst (-1), 1) := by decide +kernel
theorem dX0_append_25 : decode cX0_append 25 = .ok (.iastore, 1) := by decide +kernel
theorem dX0_append_26 : decode cX0_append 26 = .ok (.aload_n 3, 1) := by decide +kernel
theorem dX0_append_27 : decode cX0_append 27 = .ok (.bipush 6, 2) := by decide +kernel
theorem dX0_append_29 : decode cX0_append 29 = .ok (.iconst (-1), 1) := by decide +kernel
theorem dX0_append_30 : decode cX0_append 30 = .ok (.iastore, 1) := by decide +kernel
theorem dX0_append_31 : decode cX0_append 31 = .ok (.aload_n 0, 1) := by decide +kernel
theorem dX0_append_32 : decode cX0_append 32 = .ok (.dup, 1) := by decide +kernel
theorem dX0_append_33 : decode cX0_append 33 = .ok (.getfield 23, 3) := by decide +kernel
theorem dX0_append_36 : decode cX0_append 36 = .ok (.iconst 1, 1) := by decide +kernel
theorem dX0_append_37 : decode cX0_append 37 = .ok (.iadd, 1) := by decide +kernel
theorem dX0_append_38 : decode cX0_append 38 = .ok (.putfield 23, 3) := by decide +kernel
theorem dX0_append_41 : decode cX0_append 41 = .ok (.aload_n 0, 1) := by decide +kernel
theorem dX0_append_42 : decode cX0_append 42 = .ok (.getfield 23, 3) := by decide +kernel
theorem dX0_append_45 : decode cX0_append 45 = .ok (.iconst 1, 1) := by decide +kernel
theorem dX0_append_46 : decode cX0_append 46 = .ok (.isub, 1) := by decide +kernel
theorem dX0_append_47 : decode cX0_append 47 = .ok (.ireturn, 1) := by decide +kernel
theorem dX0_appendDependency_0 : decode cX0_appendDependency 0 = .ok (.aload_n 0, 1) := by decide +kernel
theorem dX0_appendDependency_1 : decode cX0_appendDependency 1 = .ok (.getfield 19, 3) := by decide +kernel
theorem dX0_appendDependency_4 : decode cX0_appendDependency 4 = .ok (.iload_n 1, 1) := by decide +kernel
theorem dX0_appendDependency_5 : decode cX0_appendDependency 5 = .ok (.iaload, 1) := by decide +kernel
theorem dX0_appendDependency_6 : decode cX0_appendDependency 6 = .ok (.istore 5, 2) := by decide +kernel
theorem dX0_appendDependency_8 : decode cX0_appendDependency 8 = .ok (.iload 5, 2) := by decide +kernel
theorem dX0_appendDependency_10 : decode cX0_appendDependency 10 = .ok (.iconst 3, 1) := by decide +kernel
theorem dX0_appendDependency_11 : decode cX0_appendDependency 11 = .ok (.imul, 1) := by decide +kernel
theorem dX0_appendDependency_12 : decode cX0_appendDependency 12 = .ok (.istore 6, 2) := by decide +kernel
theorem dX0_appendDependency_14 : decode cX0_appendDependency 14 = .ok (.aload_n 0, 1) := by decide +kernel
theorem dX0_appendDependency_15 : decode cX0_appendDependency 15 = .ok (.getfield 16, 3) := by decide +kernel
theorem dX0_appendDependency_18 : decode cX0_appendDependency 18 = .ok (.iload_n 1, 1) := by decide +kernel
theorem dX0_appendDependency_19 : decode cX0_appendDependency 19 = .ok (.aaload, 1) := by decide +kernel
theorem dX0_appendDependency_20 : decode cX0_appendDependency 20 = .ok (.iload 6, 2) := by decide +kernel
theorem dX0_appendDependency_22 : decode cX0_appendDependency 22 = .ok (.iconst 0, 1) := by decide +kernel
theorem dX0_appendDependency_23 : decode cX0_appendDependency 23 = .ok (.iadd, 1) := by decide +kernel
theorem dX0_appendDependency_24 : decode cX0_appendDependency 24 = .ok (.iload_n 2, 1) := by decide +kernel
theorem dX0_appendDependency_25 : decode cX0_appendDependency 25 = .ok (.iastore, 1) := by decide +kernel
theorem dX0_appendDependency_26 : decode cX0_appendDependency 26 = .ok (.aload_n 0, 1) := by decide +kernel
theorem dX0_appendDependency_27 : decode cX0_appendDependency 27 = .ok (.getfield 16, 3) := by decide +kernel
theorem dX0_appendDependency_30 : decode cX0_appendDependency 30 = .ok (.iload_n 1, 1) := by decide +kernel
theorem dX0_appendDependency_31 : decode cX0_appendDependency 31 = .ok (.aaload, 1) := by decide +kernel
theorem dX0_appendDependency_32 : decode cX0_appendDependency 32 = .ok (.iload 6, 2) := by decide +kernel
theorem dX0_appendDependency_34 : decode cX0_appendDependency 34 = .ok (.iconst 1, 1) := by decide +kernel
theorem dX0_appendDependency_35 : decode cX0_appendDependency 35 = .ok (.iadd, 1) := by decide +kernel
theorem dX0_appendDependency_36 : decode cX0_appendDependency 36 = .ok (.iload_n 3, 1) := by decide +kernel
theorem dX0_appendDependency_37 : decode cX0_appendDependency 37 = .ok (.iastore, 1) := by decide +kernel
theorem dX0_appendDependency_38 : decode cX0_appendDependency 38 = .ok (.aload_n 0, 1) := by decide +kernel
theorem dX0_appendDependency_39 : decode cX0_appendDependency 39 = .ok (.getfield 16, 3) := by decide +kernel
theorem dX0_appendDependency_42 : decode cX0_appendDependency 42 = .ok (.iload_n 1, 1) := by decide +kernel
theorem dX0_appendDependency_43 : decode cX0_appendDependency 43 = .ok (.aaload, 1) := by decide +kernel
theorem dX0_appendDependency_44 : decode cX0_appendDependency 44 = .ok (.iload 6, 2) := by decide +kernel
theorem dX0_appendDependency_46 : decode cX0_appendDependency 46 = .ok (.iconst 2, 1) := by decide +kernel
theorem dX0_appendDependency_47 : decode cX0_appendDependency 47 = .ok (.iadd, 1) := by decide +kernel
theorem dX0_appendDependency_48 : decode cX0_appendDependency 48 = .ok (.iload 4, 2) := by decide +kernel
theorem dX0_appendDependency_50 : decode cX0_appendDependency 50 = .ok (.iastore, 1) := by decide +kernel
theorem dX0_appendDependency_51 : decode cX0_appendDependency 51 = .ok (.aload_n 0, 1) := by decide +kernel
theorem dX0_appendDependency_52 : decode cX0_appendDependency 52 = .ok (.getfield 19, 3) := by decide +kernel
theorem dX0_appendDependency_55 : decode cX0_appendDependency 55 = .ok (.iload_n 1, 1) := by decide +kernel
theorem dX0_appendDependency_56 : decode cX0_appendDependency 56 = .ok (.iload 5, 2) := by decide +kernel
theorem dX0_appendDependency_58 : decode cX0_appendDependency 58 = .ok (.iconst 1, 1) := by decide +kernel
theorem dX0_appendDependency_59 : decode cX0_appendDependency 59 = .ok (.iadd, 1) := by decide +kernel
theorem dX0_appendDependency_60 : decode cX0_appendDependency 60 = .ok (.iastore, 1) := by decide +kernel
theorem dX0_appendDependency_61 : decode cX0_appendDependency 61 = .ok (.iload 5, 2) := by decide +kernel
theorem dX0_appendDependency_63 : decode cX0_appendDependency 63 = .ok (.ireturn, 1) := by decide +kernel
theorem dX0_hasDependency_0 : decode cX0_hasDependency 0 = .ok (.iload_n 2, 1) := by decide +kernel
theorem dX0_hasDependency_1 : decode cX0_hasDependency 1 = .ok (.ifCond .lt 17, 3) := by decide +kernel
theorem dX0_hasDependency_4 : decode cX0_hasDependency 4 = .ok (.iload_n 2, 1) := by decide +kernel
theorem dX0_hasDependency_5 : decode cX0_hasDependency 5 = .ok (.aload_n 0, 1) := by decide +kernel
theorem dX0_hasDependency_6 : decode cX0_hasDependency 6 = .ok (.getfield 19, 3) := by decide +kernel
theorem dX0_hasDependency_9 : decode cX0_hasDependency 9 = .ok (.iload_n 1, 1) := by decide +kernel
theorem dX0_hasDependency_10 : decode cX0_hasDependency 10 = .ok (.iaload, 1) := by decide +kernel
theorem dX0_hasDependency_11 : decode cX0_hasDependency 11 = .ok (.if_icmp .ge 7, 3) := by decide +kernel
theorem dX0_hasDependency_14 : decode cX0_hasDependency 14 = .ok (.iconst 1, 1) := by decide +kernel
theorem dX0_hasDependency_15 : decode cX0_hasDependency 15 = .ok (.goto 4, 3) := by decide +kernel
theorem dX0_hasDependency_18 : decode cX0_hasDependency 18 = .ok (.iconst 0, 1) := by decide +kernel
theorem dX0_hasDependency_19 : decode cX0_hasDependency 19 = .ok (.ireturn, 1) := by decide +kernel
theorem dX0_partOf_0 : decode cX0_partOf 0 = .ok (.aload_n 0, 1) := by decide +kernel
theorem dX0_partOf_1 : decode cX0_partOf 1 = .ok (.getfield 16, 3) := by decide +kernel
theorem dX0_partOf_4 : decode cX0_partOf 4 = .ok (.iload_n 1, 1) := by decide +kernel
theorem dX0_partOf_5 : decode cX0_partOf 5 = .ok (.aaload, 1) := by decide +kernel
theorem dX0_partOf_6 : decode cX0_partOf 6 = .ok (.iload_n 2, 1) := by decide +kernel
theorem dX0_partOf_7 : decode cX0_partOf 7 = .ok (.iconst 3, 1) := by decide +kernel
theorem dX0_partOf_8 : decode cX0_partOf 8 = .ok (.imul, 1) := by decide +kernel
theorem dX0_partOf_9 : decode cX0_partOf 9 = .ok (.iload_n 3, 1) := by decide +kernel
theorem dX0_partOf_10 : decode cX0_partOf 10 = .ok (.iadd, 1) := by decide +kernel
theorem dX0_partOf_11 : decode cX0_partOf 11 = .ok (.iaload, 1) := by decide +kernel
theorem dX0_partOf_12 : decode cX0_partOf 12 = .ok (.ireturn, 1) := by decide +kernel
theorem dX0_turnProfile_0 : decode cX0_turnProfile 0 = .ok (.iconst 1, 1) := by decide +kernel
theorem dX0_turnProfile_1 : decode cX0_turnProfile 1 = .ok (.iload_n 1, 1) := by decide +kernel
theorem dX0_turnProfile_2 : decode cX0_turnProfile 2 = .ok (.ishl, 1) := by decide +kernel
theorem dX0_turnProfile_3 : decode cX0_turnProfile 3 = .ok (.istore_n 3, 1) := by decide +kernel
theorem dX0_turnProfile_4 : decode cX0_turnProfile 4 = .ok (.aload_n 0, 1) := by decide +kernel
theorem dX0_turnProfile_5 : decode cX0_turnProfile 5 = .ok (.iload_n 2, 1) := by decide +kernel
theorem dX0_turnProfile_6 : decode cX0_turnProfile 6 = .ok (.ifCond .eq 12, 3) := by decide +kernel
theorem dX0_turnProfile_9 : decode cX0_turnProfile 9 = .ok (.aload_n 0, 1) := by decide +kernel
theorem dX0_turnProfile_10 : decode cX0_turnProfile 10 = .ok (.getfield 27, 3) := by decide +kernel
theorem dX0_turnProfile_13 : decode cX0_turnProfile 13 = .ok (.iload_n 3, 1) := by decide +kernel
theorem dX0_turnProfile_14 : decode cX0_turnProfile 14 = .ok (.ior, 1) := by decide +kernel
theorem dX0_turnProfile_15 : decode cX0_turnProfile 15 = .ok (.goto 11, 3) := by decide +kernel
theorem dX0_turnProfile_18 : decode cX0_turnProfile 18 = .ok (.aload_n 0, 1) := by decide +kernel
theorem dX0_turnProfile_19 : decode cX0_turnProfile 19 = .ok (.getfield 27, 3) := by decide +kernel
theorem dX0_turnProfile_22 : decode cX0_turnProfile 22 = .ok (.iload_n 3, 1) := by decide +kernel
theorem dX0_turnProfile_23 : decode cX0_turnProfile 23 = .ok (.iconst (-1), 1) := by decide +kernel
theorem dX0_turnProfile_24 : decode cX0_turnProfile 24 = .ok (.ixor, 1) := by decide +kernel
theorem dX0_turnProfile_25 : decode cX0_turnProfile 25 = .ok (.iand, 1) := by decide +kernel
theorem dX0_turnProfile_26 : decode cX0_turnProfile 26 = .ok (.putfield 27, 3) := by decide +kernel
theorem dX0_turnProfile_29 : decode cX0_turnProfile 29 = .ok (.return_, 1) := by decide +kernel
theorem dX0_isActive_0 : decode cX0_isActive 0 = .ok (.aload_n 0, 1) := by decide +kernel
theorem dX0_isActive_1 : decode cX0_isActive 1 = .ok (.getfield 11, 3) := by decide +kernel
theorem dX0_isActive_4 : decode cX0_isActive 4 = .ok (.iload_n 1, 1) := by decide +kernel
theorem dX0_isActive_5 : decode cX0_isActive 5 = .ok (.aaload, 1) := by decide +kernel
theorem dX0_isActive_6 : decode cX0_isActive 6 = .ok (.iconst 5, 1) := by decide +kernel
theorem dX0_isActive_7 : decode cX0_isActive 7 = .ok (.iaload, 1) := by decide +kernel
theorem dX0_isActive_8 : decode cX0_isActive 8 = .ok (.istore_n 2, 1) := by decide +kernel
theorem dX0_isActive_9 : decode cX0_isActive 9 = .ok (.iload_n 2, 1) := by decide +kernel
theorem dX0_isActive_10 : decode cX0_isActive 10 = .ok (.iconst (-1), 1) := by decide +kernel
theorem dX0_isActive_11 : decode cX0_isActive 11 = .ok (.if_icmp .eq 14, 3) := by decide +kernel
theorem dX0_isActive_14 : decode cX0_isActive 14 = .ok (.aload_n 0, 1) := by decide +kernel
theorem dX0_isActive_15 : decode cX0_isActive 15 = .ok (.getfield 27, 3) := by decide +kernel
theorem dX0_isActive_18 : decode cX0_isActive 18 = .ok (.iconst 1, 1) := by decide +kernel
theorem dX0_isActive_19 : decode cX0_isActive 19 = .ok (.iload_n 2, 1) := by decide +kernel
theorem dX0_isActive_20 : decode cX0_isActive 20 = .ok (.ishl, 1) := by decide +kernel
theorem dX0_isActive_21 : decode cX0_isActive 21 = .ok (.iand, 1) := by decide +kernel
theorem dX0_isActive_22 : decode cX0_isActive 22 = .ok (.ifCond .eq 7, 3) := by decide +kernel
theorem dX0_isActive_25 : decode cX0_isActive 25 = .ok (.iconst 1, 1) := by decide +kernel
theorem dX0_isActive_26 : decode cX0_isActive 26 = .ok (.goto 4, 3) := by decide +kernel
theorem dX0_isActive_29 : decode cX0_isActive 29 = .ok (.iconst 0, 1) := by decide +kernel
theorem dX0_isActive_30 : decode cX0_isActive 30 = .ok (.ireturn, 1) := by decide +kernel
theorem dX0_isStarted_0 : decode cX0_isStarted 0 = .ok (.aload_n 0, 1) := by decide +kernel
theorem dX0_isStarted_1 : decode cX0_isStarted 1 = .ok (.iload_n 1, 1) := by decide +kernel
theorem dX0_isStarted_2 : decode cX0_isStarted 2 = .ok (.invokevirtual 30, 3) := by decide +kernel
theorem dX0_isStarted_5 : decode cX0_isStarted 5 = .ok (.ifCond .eq 29, 3) := by decide +kernel
theorem dX0_isStarted_8 : decode cX0_isStarted 8 = .ok (.aload_n 0, 1) := by decide +kernel
theorem dX0_isStarted_9 : decode cX0_isStarted 9 = .ok (.getfield 11, 3) := by decide +kernel
theorem dX0_isStarted_12 : decode cX0_isStarted 12 = .ok (.iload_n 1, 1) := by decide +kernel
theorem dX0_isStarted_13 : decode cX0_isStarted 13 = .ok (.aaload, 1) := by decide +kernel
theorem dX0_isStarted_14 : decode cX0_isStarted 14 = .ok (.iconst 1, 1) := by decide +kernel
theorem dX0_isStarted_15 : decode cX0_isStarted 15 = .ok (.iaload, 1) := by decide +kernel
theorem dX0_isStarted_16 : decode cX0_isStarted 16 = .ok (.ifCond .ne 18, 3) := by decide +kernel
theorem dX0_isStarted_19 : decode cX0_isStarted 19 = .ok (.aload_n 0, 1) := by decide +kernel
theorem dX0_isStarted_20 : decode cX0_isStarted 20 = .ok (.getfield 11, 3) := by decide +kernel
theorem dX0_isStarted_23 : decode cX0_isStarted 23 = .ok (.iload_n 1, 1) := by decide +kernel
theorem dX0_isStarted_24 : decode cX0_isStarted 24 = .ok (.aaload, 1) := by decide +kernel
theorem dX0_isStarted_25 : decode cX0_isStarted 25 = .ok (.iconst 4, 1) := by decide +kernel
theorem dX0_isStarted_26 : decode cX0_isStarted 26 = .ok (.iaload, 1) := by decide +kernel
theorem dX0_isStarted_27 : decode cX0_isStarted 27 = .ok (.ifCond .ne 7, 3) := by decide +kernel
theorem dX0_isStarted_30 : decode cX0_isStarted 30 = .ok (.iconst 1, 1) := by decide +kernel
theorem dX0_isStarted_31 : decode cX0_isStarted 31 = .ok (.goto 4, 3) := by decide +kernel
theorem dX0_isStarted_34 : decode cX0_isStarted 34 = .ok (.iconst 0, 1) := by decide +kernel
theorem dX0_isStarted_35 : decode cX0_isStarted 35 = .ok (.ireturn, 1) := by decide +kernel
theorem dX0_provides_0 : decode cX0_provides 0 = .ok (.aload_n 0, 1) := by decide +kernel
theorem dX0_provides_1 : decode cX0_provides 1 = .ok (.getfield 11, 3) := by decide +kernel
theorem dX0_provides_4 : decode cX0_provides 4 = .ok (.iload_n 1, 1) := by decide +kernel
theorem dX0_provides_5 : decode cX0_provides 5 = .ok (.aaload, 1) := by decide +kernel
theorem dX0_provides_6 : decode cX0_provides 6 = .ok (.iconst 0, 1) := by decide +kernel
theorem dX0_provides_7 : decode cX0_provides 7 = .ok (.iaload, 1) := by decide +kernel
theorem dX0_provides_8 : decode cX0_provides 8 = .ok (.iconst 1, 1) := by decide +kernel
theorem dX0_provides_9 : decode cX0_provides 9 = .ok (.iload_n 2, 1) := by decide +kernel
theorem dX0_provides_10 : decode cX0_provides 10 = .ok (.ishl, 1) := by decide +kernel
theorem dX0_provides_11 : decode cX0_provides 11 = .ok (.iand, 1) := by decide +kernel
theorem dX0_provides_12 : decode cX0_provides 12 = .ok (.ifCond .eq 24, 3) := by decide +kernel
theorem dX0_provides_15 : decode cX0_provides 15 = .ok (.iload_n 3, 1) := by decide +kernel
theorem dX0_provides_16 : decode cX0_provides 16 = .ok (.iconst (-1), 1) := by decide +kernel
theorem dX0_provides_17 : decode cX0_provides 17 = .ok (.if_icmp .eq 15, 3) := by decide +kernel
theorem dX0_provides_20 : decode cX0_provides 20 = .ok (.aload_n 0, 1) := by decide +kernel
theorem dX0_provides_21 : decode cX0_provides 21 = .ok (.getfield 11, 3) := by decide +kernel
theorem dX0_provides_24 : decode cX0_provides 24 = .ok (.iload_n 1, 1) := by decide +kernel
theorem dX0_provides_25 : decode cX0_provides 25 = .ok (.aaload, 1) := by decide +kernel
theorem dX0_provides_26 : decode cX0_provides 26 = .ok (.iconst 2, 1) := by decide +kernel
theorem dX0_provides_27 : decode cX0_provides 27 = .ok (.iaload, 1) := by decide +kernel
theorem dX0_provides_28 : decode cX0_provides 28 = .ok (.iload_n 3, 1) := by decide +kernel
theorem dX0_provides_29 : decode cX0_provides 29 = .ok (.if_icmp .ne 7, 3) := by decide +kernel
theorem dX0_provides_32 : decode cX0_provides 32 = .ok (.iconst 1, 1) := by decide +kernel
theorem dX0_provides_33 : decode cX0_provides 33 = .ok (.goto 4, 3) := by decide +kernel
theorem dX0_provides_36 : decode cX0_provides 36 = .ok (.iconst 0, 1) := by decide +kernel
theorem dX0_provides_37 : decode cX0_provides 37 = .ok (.ireturn, 1) := by decide +kernel
theorem dX0_candidateMask_0 : decode cX0_candidateMask 0 = .ok (.iconst 0, 1) := by decide +kernel
theorem dX0_candidateMask_1 : decode cX0_candidateMask 1 = .ok (.istore_n 3, 1) := by decide +kernel
theorem dX0_candidateMask_2 : decode cX0_candidateMask 2 = .ok (.iconst 0, 1) := by decide +kernel
theorem dX0_candidateMask_3 : decode cX0_candidateMask 3 = .ok (.istore 4, 2) := by decide +kernel
theorem dX0_candidateMask_5 : decode cX0_candidateMask 5 = .ok (.iload 4, 2) := by decide +kernel
theorem dX0_candidateMask_7 : decode cX0_candidateMask 7 = .ok (.aload_n 0, 1) := by decide +kernel
theorem dX0_candidateMask_8 : decode cX0_candidateMask 8 = .ok (.getfield 23, 3) := by decide +kernel
theorem dX0_candidateMask_11 : decode cX0_candidateMask 11 = .ok (.if_icmp .ge 36, 3) := by decide +kernel
theorem dX0_candidateMask_14 : decode cX0_candidateMask 14 = .ok (.aload_n 0, 1) := by decide +kernel
theorem dX0_candidateMask_15 : decode cX0_candidateMask 15 = .ok (.iload 4, 2) := by decide +kernel
theorem dX0_candidateMask_17 : decode cX0_candidateMask 17 = .ok (.invokevirtual 30, 3) := by decide +kernel
theorem dX0_candidateMask_20 : decode cX0_candidateMask 20 = .ok (.ifCond .eq 21, 3) := by decide +kernel
theorem dX0_candidateMask_23 : decode cX0_candidateMask 23 = .ok (.aload_n 0, 1) := by decide +kernel
theorem dX0_candidateMask_24 : decode cX0_candidateMask 24 = .ok (.iload 4, 2) := by decide +kernel
theorem dX0_candidateMask_26 : decode cX0_candidateMask 26 = .ok (.iload_n 1, 1) := by decide +kernel
theorem dX0_candidateMask_27 : decode cX0_candidateMask 27 = .ok (.iload_n 2, 1) := by decide +kernel
theorem dX0_candidateMask_28 : decode cX0_candidateMask 28 = .ok (.invokevirtual 34, 3) := by decide +kernel
theorem dX0_candidateMask_31 : decode cX0_candidateMask 31 = .ok (.ifCond .eq 10, 3) := by decide +kernel
theorem dX0_candidateMask_34 : decode cX0_candidateMask 34 = .ok (.iload_n 3, 1) := by decide +kernel
theorem dX0_candidateMask_35 : decode cX0_candidateMask 35 = .ok (.iconst 1, 1) := by decide +kernel
theorem dX0_candidateMask_36 : decode cX0_candidateMask 36 = .ok (.iload 4, 2) := by decide +kernel
theorem dX0_candidateMask_38 : decode cX0_candidateMask 38 = .ok (.ishl, 1) := by decide +kernel
theorem dX0_candidateMask_39 : decode cX0_candidateMask 39 = .ok (.ior, 1) := by decide +kernel
theorem dX0_candidateMask_40 : decode cX0_candidateMask 40 = .ok (.istore_n 3, 1) := by decide +kernel
theorem dX0_candidateMask_41 : decode cX0_candidateMask 41 = .ok (.iinc 4 1, 3) := by decide +kernel
theorem dX0_candidateMask_44 : decode cX0_candidateMask 44 = .ok (.goto (-39), 3) := by decide +kernel
theorem dX0_candidateMask_47 : decode cX0_candidateMask 47 = .ok (.iload_n 3, 1) := by decide +kernel
theorem dX0_candidateMask_48 : decode cX0_candidateMask 48 = .ok (.ireturn, 1) := by decide +kernel
theorem dX0_candidatesFor_0 : decode cX0_candidatesFor 0 = .ok (.aload_n 0, 1) := by decide +kernel
theorem dX0_candidatesFor_1 : decode cX0_candidatesFor 1 = .ok (.aload_n 0, 1) := by decide +kernel
theorem dX0_candidatesFor_2 : decode cX0_candidatesFor 2 = .ok (.iload_n 1, 1) := by decide +kernel
theorem dX0_candidatesFor_3 : decode cX0_candidatesFor 3 = .ok (.iload_n 2, 1) := by decide +kernel
theorem dX0_candidatesFor_4 : decode cX0_candidatesFor 4 = .ok (.iconst 0, 1) := by decide +kernel
theorem dX0_candidatesFor_5 : decode cX0_candidatesFor 5 = .ok (.invokevirtual 38, 3) := by decide +kernel
theorem dX0_candidatesFor_8 : decode cX0_candidatesFor 8 = .ok (.aload_n 0, 1) := by decide +kernel
theorem dX0_candidatesFor_9 : decode cX0_candidatesFor 9 = .ok (.iload_n 1, 1) := by decide +kernel
theorem dX0_candidatesFor_10 : decode cX0_candidatesFor 10 = .ok (.iload_n 2, 1) := by decide +kernel
theorem dX0_candidatesFor_11 : decode cX0_candidatesFor 11 = .ok (.iconst 1, 1) := by decide +kernel
theorem dX0_candidatesFor_12 : decode cX0_candidatesFor 12 = .ok (.invokevirtual 38, 3) := by decide +kernel
theorem dX0_candidatesFor_15 : decode cX0_candidatesFor 15 = .ok (.invokevirtual 42, 3) := by decide +kernel
theorem dX0_candidatesFor_18 : decode cX0_candidatesFor 18 = .ok (.ireturn, 1) := by decide +kernel
theorem dX0_choiceAmong_0 : decode cX0_choiceAmong 0 = .ok (.aload_n 0, 1) := by decide +kernel
theorem dX0_choiceAmong_1 : decode cX0_choiceAmong 1 = .ok (.iload_n 1, 1) := by decide +kernel
theorem dX0_choiceAmong_2 : decode cX0_choiceAmong 2 = .ok (.invokevirtual 46, 3) := by decide +kernel
theorem dX0_choiceAmong_5 : decode cX0_choiceAmong 5 = .ok (.istore_n 2, 1) := by decide +kernel
theorem dX0_choiceAmong_6 : decode cX0_choiceAmong 6 = .ok (.iload_n 2, 1) := by decide +kernel
theorem dX0_choiceAmong_7 : decode cX0_choiceAmong 7 = .ok (.iconst (-1), 1) := by decide +kernel
theorem dX0_choiceAmong_8 : decode cX0_choiceAmong 8 = .ok (.if_icmp .eq 7, 3) := by decide +kernel
theorem dX0_choiceAmong_11 : decode cX0_choiceAmong 11 = .ok (.iload_n 2, 1) := by decide +kernel
theorem dX0_choiceAmong_12 : decode cX0_choiceAmong 12 = .ok (.goto 13, 3) := by decide +kernel
theorem dX0_choiceAmong_15 : decode cX0_choiceAmong 15 = .ok (.aload_n 0, 1) := by decide +kernel
theorem dX0_choiceAmong_16 : decode cX0_choiceAmong 16 = .ok (.iload_n 1, 1) := by decide +kernel
theorem dX0_choiceAmong_17 : decode cX0_choiceAmong 17 = .ok (.aload_n 0, 1) := by decide +kernel
theorem dX0_choiceAmong_18 : decode cX0_choiceAmong 18 = .ok (.invokevirtual 50, 3) := by decide +kernel
theorem dX0_choiceAmong_21 : decode cX0_choiceAmong 21 = .ok (.iand, 1) := by decide +kernel
theorem dX0_choiceAmong_22 : decode cX0_choiceAmong 22 = .ok (.invokevirtual 46, 3) := by decide +kernel
theorem dX0_choiceAmong_25 : decode cX0_choiceAmong 25 = .ok (.ireturn, 1) := by decide +kernel
theorem dX0_singleIn_0 : decode cX0_singleIn 0 = .ok (.iconst 0, 1) := by decide +kernel
theorem dX0_singleIn_1 : decode cX0_singleIn 1 = .ok (.istore_n 2, 1) := by decide +kernel
theorem dX0_singleIn_2 : decode cX0_singleIn 2 = .ok (.iload_n 2, 1) := by decide +kernel
theorem dX0_singleIn_3 : decode cX0_singleIn 3 = .ok (.aload_n 0, 1) := by decide +kernel
theorem dX0_singleIn_4 : decode cX0_singleIn 4 = .ok (.getfield 23, 3) := by decide +kernel
theorem dX0_singleIn_7 : decode cX0_singleIn 7 = .ok (.if_icmp .ge 18, 3) := by decide +kernel
theorem dX0_singleIn_10 : decode cX0_singleIn 10 = .ok (.iload_n 1, 1) := by decide +kernel
theorem dX0_singleIn_11 : decode cX0_singleIn 11 = .ok (.iconst 1, 1) := by decide +kernel
theorem dX0_singleIn_12 : decode cX0_singleIn 12 = .ok (.iload_n 2, 1) := by decide +kernel
theorem dX0_singleIn_13 : decode cX0_singleIn 13 = .ok (.ishl, 1) := by decide +kernel
theorem dX0_singleIn_14 : decode cX0_singleIn 14 = .ok (.if_icmp .ne 5, 3) := by decide +kernel
theorem dX0_singleIn_17 : decode cX0_singleIn 17 = .ok (.iload_n 2, 1) := by decide +kernel
theorem dX0_singleIn_18 : decode cX0_singleIn 18 = .ok (.ireturn, 1) := by decide +kernel
theorem dX0_singleIn_19 : decode cX0_singleIn 19 = .ok (.iinc 2 1, 3) := by decide +kernel
theorem dX0_singleIn_22 : decode cX0_singleIn 22 = .ok (.goto (-20), 3) := by decide +kernel
theorem dX0_singleIn_25 : decode cX0_singleIn 25 = .ok (.iconst (-1), 1) := by decide +kernel
theorem dX0_singleIn_26 : decode cX0_singleIn 26 = .ok (.ireturn, 1) := by decide +kernel
theorem dX0_primaryMask_0 : decode cX0_primaryMask 0 = .ok (.iconst 0, 1) := by decide +kernel
theorem dX0_primaryMask_1 : decode cX0_primaryMask 1 = .ok (.istore_n 1, 1) := by decide +kernel
theorem dX0_primaryMask_2 : decode cX0_primaryMask 2 = .ok (.iconst 0, 1) := by decide +kernel
theorem dX0_primaryMask_3 : decode cX0_primaryMask 3 = .ok (.istore_n 2, 1) := by decide +kernel
theorem dX0_primaryMask_4 : decode cX0_primaryMask 4 = .ok (.iload_n 2, 1) := by decide +kernel
theorem dX0_primaryMask_5 : decode cX0_primaryMask 5 = .ok (.aload_n 0, 1) := by decide +kernel
theorem dX0_primaryMask_6 : decode cX0_primaryMask 6 = .ok (.getfield 23, 3) := by decide +kernel
theorem dX0_primaryMask_9 : decode cX0_primaryMask 9 = .ok (.if_icmp .ge 22, 3) := by decide +kernel
theorem dX0_primaryMask_12 : decode cX0_primaryMask 12 = .ok (.iload_n 1, 1) := by decide +kernel
theorem dX0_primaryMask_13 : decode cX0_primaryMask 13 = .ok (.aload_n 0, 1) := by decide +kernel
theorem dX0_primaryMask_14 : decode cX0_primaryMask 14 = .ok (.getfield 11, 3) := by decide +kernel
theorem dX0_primaryMask_17 : decode cX0_primaryMask 17 = .ok (.iload_n 2, 1) := by decide +kernel
theorem dX0_primaryMask_18 : decode cX0_primaryMask 18 = .ok (.aaload, 1) := by decide +kernel
theorem dX0_primaryMask_19 : decode cX0_primaryMask 19 = .ok (.iconst 3, 1) := by decide +kernel
theorem dX0_primaryMask_20 : decode cX0_primaryMask 20 = .ok (.iaload, 1) := by decide +kernel
theorem dX0_primaryMask_21 : decode cX0_primaryMask 21 = .ok (.iload_n 2, 1) := by decide +kernel
theorem dX0_primaryMask_22 : decode cX0_primaryMask 22 = .ok (.ishl, 1) := by decide +kernel
theorem dX0_primaryMask_23 : decode cX0_primaryMask 23 = .ok (.ior, 1) := by decide +kernel
theorem dX0_primaryMask_24 : decode cX0_primaryMask 24 = .ok (.istore_n 1, 1) := by decide +kernel
theorem dX0_primaryMask_25 : decode cX0_primaryMask 25 = .ok (.iinc 2 1, 3) := by decide +kernel
theorem dX0_primaryMask_28 : decode cX0_primaryMask 28 = .ok (.goto (-24), 3) := by decide +kernel
theorem dX0_primaryMask_31 : decode cX0_primaryMask 31 = .ok (.iload_n 1, 1) := by decide +kernel
theorem dX0_primaryMask_32 : decode cX0_primaryMask 32 = .ok (.ireturn, 1) := by decide +kernel
theorem dX0_directNeeds_0 : decode cX0_directNeeds 0 = .ok (.iconst 0, 1) := by decide +kernel
theorem dX0_directNeeds_1 : decode cX0_directNeeds 1 = .ok (.istore_n 2, 1) := by decide +kernel
theorem dX0_directNeeds_2 : decode cX0_directNeeds 2 = .ok (.iconst 0, 1) := by decide +kernel
theorem dX0_directNeeds_3 : decode cX0_directNeeds 3 = .ok (.istore_n 3, 1) := by decide +kernel
theorem dX0_directNeeds_4 : decode cX0_directNeeds 4 = .ok (.iload_n 3, 1) := by decide +kernel
theorem dX0_directNeeds_5 : decode cX0_directNeeds 5 = .ok (.aload_n 0, 1) := by decide +kernel
theorem dX0_directNeeds_6 : decode cX0_directNeeds 6 = .ok (.getfield 19, 3) := by decide +kernel
theorem dX0_directNeeds_9 : decode cX0_directNeeds 9 = .ok (.iload_n 1, 1) := by decide +kernel
theorem dX0_directNeeds_10 : decode cX0_directNeeds 10 = .ok (.iaload, 1) := by decide +kernel
theorem dX0_directNeeds_11 : decode cX0_directNeeds 11 = .ok (.if_icmp .ge 18, 3) := by decide +kernel
theorem dX0_directNeeds_14 : decode cX0_directNeeds 14 = .ok (.iload_n 2, 1) := by decide +kernel
theorem dX0_directNeeds_15 : decode cX0_directNeeds 15 = .ok (.aload_n 0, 1) := by decide +kernel
theorem dX0_directNeeds_16 : decode cX0_directNeeds 16 = .ok (.iload_n 1, 1) := by decide +kernel
theorem dX0_directNeeds_17 : decode cX0_directNeeds 17 = .ok (.iload_n 3, 1) := by decide +kernel
theorem dX0_directNeeds_18 : decode cX0_directNeeds 18 = .ok (.invokevirtual 54, 3) := by decide +kernel
theorem dX0_directNeeds_21 : decode cX0_directNeeds 21 = .ok (.ior, 1) := by decide +kernel
theorem dX0_directNeeds_22 : decode cX0_directNeeds 22 = .ok (.istore_n 2, 1) := by decide +kernel
theorem dX0_directNeeds_23 : decode cX0_directNeeds 23 = .ok (.iinc 3 1, 3) := by decide +kernel
theorem dX0_directNeeds_26 : decode cX0_directNeeds 26 = .ok (.goto (-22), 3) := by decide +kernel
theorem dX0_directNeeds_29 : decode cX0_directNeeds 29 = .ok (.iload_n 2, 1) := by decide +kernel
theorem dX0_directNeeds_30 : decode cX0_directNeeds 30 = .ok (.ireturn, 1) := by decide +kernel
theorem dX0_needsOfDependency_0 : decode cX0_needsOfDependency 0 = .ok (.aload_n 0, 1) := by decide +kernel
theorem dX0_needsOfDependency_1 : decode cX0_needsOfDependency 1 = .ok (.iload_n 1, 1) := by decide +kernel
theorem dX0_needsOfDependency_2 : decode cX0_needsOfDependency 2 = .ok (.iload_n 2, 1) := by decide +kernel
theorem dX0_needsOfDependency_3 : decode cX0_needsOfDependency 3 = .ok (.iconst 2, 1) := by decide +kernel
theorem dX0_needsOfDependency_4 : decode cX0_needsOfDependency 4 = .ok (.invokevirtual 38, 3) := by decide +kernel
theorem dX0_needsOfDependency_7 : decode cX0_needsOfDependency 7 = .ok (.istore_n 3, 1) := by decide +kernel
theorem dX0_needsOfDependency_8 : decode cX0_needsOfDependency 8 = .ok (.iload_n 3, 1) := by decide +kernel
theorem dX0_needsOfDependency_9 : decode cX0_needsOfDependency 9 = .ok (.iconst 3, 1) := by decide +kernel
theorem dX0_needsOfDependency_10 : decode cX0_needsOfDependency 10 = .ok (.if_icmp .ne 5, 3) := by decide +kernel
theorem dX0_needsOfDependency_13 : decode cX0_needsOfDependency 13 = .ok (.iconst 0, 1) := by decide +kernel
theorem dX0_needsOfDependency_14 : decode cX0_needsOfDependency 14 = .ok (.ireturn, 1) := by decide +kernel
theorem dX0_needsOfDependency_15 : decode cX0_needsOfDependency 15 = .ok (.aload_n 0, 1) := by decide +kernel
theorem dX0_needsOfDependency_16 : decode cX0_needsOfDependency 16 = .ok (.iload_n 1, 1) := by decide +kernel
theorem dX0_needsOfDependency_17 : decode cX0_needsOfDependency 17 = .ok (.iload_n 2, 1) := by decide +kernel
theorem dX0_needsOfDependency_18 : decode cX0_needsOfDependency 18 = .ok (.invokevirtual 57, 3) := by decide +kernel
theorem dX0_needsOfDependency_21 : decode cX0_needsOfDependency 21 = .ok (.istore 4, 2) := by decide +kernel
theorem dX0_needsOfDependency_23 : decode cX0_needsOfDependency 23 = .ok (.iload_n 3, 1) := by decide +kernel
theorem dX0_needsOfDependency_24 : decode cX0_needsOfDependency 24 = .ok (.iconst 2, 1) := by decide +kernel
theorem dX0_needsOfDependency_25 : decode cX0_needsOfDependency 25 = .ok (.if_icmp .ne 6, 3) := by decide +kernel
theorem dX0_needsOfDependency_28 : decode cX0_needsOfDependency 28 = .ok (.iload 4, 2) := by decide +kernel
theorem dX0_needsOfDependency_30 : decode cX0_needsOfDependency 30 = .ok (.ireturn, 1) := by decide +kernel
theorem dX0_needsOfDependency_31 : decode cX0_needsOfDependency 31 = .ok (.aload_n 0, 1) := by decide +kernel
theorem dX0_needsOfDependency_32 : decode cX0_needsOfDependency 32 = .ok (.iload 4, 2) := by decide +kernel
theorem dX0_needsOfDependency_34 : decode cX0_needsOfDependency 34 = .ok (.invokevirtual 60, 3) := by decide +kernel
theorem dX0_needsOfDependency_37 : decode cX0_needsOfDependency 37 = .ok (.istore 5, 2) := by decide +kernel
theorem dX0_needsOfDependency_39 : decode cX0_needsOfDependency 39 = .ok (.iload 5, 2) := by decide +kernel
theorem dX0_needsOfDependency_41 : decode cX0_needsOfDependency 41 = .ok (.iconst (-1), 1) := by decide +kernel
theorem dX0_needsOfDependency_42 : decode cX0_needsOfDependency 42 = .ok (.if_icmp .ne 7, 3) := by decide +kernel
theorem dX0_needsOfDependency_45 : decode cX0_needsOfDependency 45 = .ok (.iconst 0, 1) := by decide +kernel
theorem dX0_needsOfDependency_46 : decode cX0_needsOfDependency 46 = .ok (.goto 7, 3) := by decide +kernel
theorem dX0_needsOfDependency_49 : decode cX0_needsOfDependency 49 = .ok (.iconst 1, 1) := by decide +kernel
theorem dX0_needsOfDependency_50 : decode cX0_needsOfDependency 50 = .ok (.iload 5, 2) := by decide +kernel
theorem dX0_needsOfDependency_52 : decode cX0_needsOfDependency 52 = .ok (.ishl, 1) := by decide +kernel
theorem dX0_needsOfDependency_53 : decode cX0_needsOfDependency 53 = .ok (.ireturn, 1) := by decide +kernel
theorem dX0_allNeeds_0 : decode cX0_allNeeds 0 = .ok (.aload_n 0, 1) := by decide +kernel
theorem dX0_allNeeds_1 : decode cX0_allNeeds 1 = .ok (.iload_n 1, 1) := by decide +kernel
theorem dX0_allNeeds_2 : decode cX0_allNeeds 2 = .ok (.invokevirtual 63, 3) := by decide +kernel
theorem dX0_allNeeds_5 : decode cX0_allNeeds 5 = .ok (.istore_n 2, 1) := by decide +kernel
theorem dX0_allNeeds_6 : decode cX0_allNeeds 6 = .ok (.iconst 0, 1) := by decide +kernel
theorem dX0_allNeeds_7 : decode cX0_allNeeds 7 = .ok (.istore_n 3, 1) := by decide +kernel
theorem dX0_allNeeds_8 : decode cX0_allNeeds 8 = .ok (.iload_n 3, 1) := by decide +kernel
theorem dX0_allNeeds_9 : decode cX0_allNeeds 9 = .ok (.aload_n 0, 1) := by decide +kernel
theorem dX0_allNeeds_10 : decode cX0_allNeeds 10 = .ok (.getfield 23, 3) := by decide +kernel
theorem dX0_allNeeds_13 : decode cX0_allNeeds 13 = .ok (.if_icmp .ge 57, 3) := by decide +kernel
theorem dX0_allNeeds_16 : decode cX0_allNeeds 16 = .ok (.iload_n 2, 1) := by decide +kernel
theorem dX0_allNeeds_17 : decode cX0_allNeeds 17 = .ok (.istore 4, 2) := by decide +kernel
theorem dX0_allNeeds_19 : decode cX0_allNeeds 19 = .ok (.iconst 0, 1) := by decide +kernel
theorem dX0_allNeeds_20 : decode cX0_allNeeds 20 = .ok (.istore 5, 2) := by decide +kernel
theorem dX0_allNeeds_22 : decode cX0_allNeeds 22 = .ok (.iload 5, 2) := by decide +kernel
theorem dX0_allNeeds_24 : decode cX0_allNeeds 24 = .ok (.aload_n 0, 1) := by decide +kernel
theorem dX0_allNeeds_25 : decode cX0_allNeeds 25 = .ok (.getfield 23, 3) := by decide +kernel
theorem dX0_allNeeds_28 : decode cX0_allNeeds 28 = .ok (.if_icmp .ge 28, 3) := by decide +kernel
theorem dX0_allNeeds_31 : decode cX0_allNeeds 31 = .ok (.iload 4, 2) := by decide +kernel
theorem dX0_allNeeds_33 : decode cX0_allNeeds 33 = .ok (.iload 5, 2) := by decide +kernel
theorem dX0_allNeeds_35 : decode cX0_allNeeds 35 = .ok (.invokestatic 66, 3) := by decide +kernel
theorem dX0_allNeeds_38 : decode cX0_allNeeds 38 = .ok (.ifCond .eq 12, 3) := by decide +kernel
theorem dX0_allNeeds_41 : decode cX0_allNeeds 41 = .ok (.iload_n 2, 1) := by decide +kernel
theorem dX0_allNeeds_42 : decode cX0_allNeeds 42 = .ok (.aload_n 0, 1) := by decide +kernel
theorem dX0_allNeeds_43 : decode cX0_allNeeds 43 = .ok (.iload 5, 2) := by decide +kernel
theorem dX0_allNeeds_45 : decode cX0_allNeeds 45 = .ok (.invokevirtual 63, 3) := by decide +kernel
theorem dX0_allNeeds_48 : decode cX0_allNeeds 48 = .ok (.ior, 1) := by decide +kernel
theorem dX0_allNeeds_49 : decode cX0_allNeeds 49 = .ok (.istore_n 2, 1) := by decide +kernel
theorem dX0_allNeeds_50 : decode cX0_allNeeds 50 = .ok (.iinc 5 1, 3) := by decide +kernel
theorem dX0_allNeeds_53 : decode cX0_allNeeds 53 = .ok (.goto (-31), 3) := by decide +kernel
theorem dX0_allNeeds_56 : decode cX0_allNeeds 56 = .ok (.iload_n 2, 1) := by decide +kernel
theorem dX0_allNeeds_57 : decode cX0_allNeeds 57 = .ok (.iload 4, 2) := by decide +kernel
theorem dX0_allNeeds_59 : decode cX0_allNeeds 59 = .ok (.if_icmp .ne 5, 3) := by decide +kernel
theorem dX0_allNeeds_62 : decode cX0_allNeeds 62 = .ok (.iload_n 2, 1) := by decide +kernel
theorem dX0_allNeeds_63 : decode cX0_allNeeds 63 = .ok (.ireturn, 1) := by decide +kernel
theorem dX0_allNeeds_64 : decode cX0_allNeeds 64 = .ok (.iinc 3 1, 3) := by decide +kernel
theorem dX0_allNeeds_67 : decode cX0_allNeeds 67 = .ok (.goto (-59), 3) := by decide +kernel
theorem dX0_allNeeds_70 : decode cX0_allNeeds 70 = .ok (.iload_n 2, 1) := by decide +kernel
theorem dX0_allNeeds_71 : decode cX0_allNeeds 71 = .ok (.ireturn, 1) := by decide +kernel
theorem dX1_init_0 : decode cX1_init 0 = .ok (.aload_n 0, 1) := by decide +kernel
theorem dX1_init_1 : decode cX1_init 1 = .ok (.invokespecial 3, 3) := by decide +kernel
theorem dX1_init_4 : decode cX1_init 4 = .ok (.aload_n 0, 1) := by decide +kernel
theorem dX1_init_5 : decode cX1_init 5 = .ok (.iconst 0, 1) := by decide +kernel
theorem dX1_init_6 : decode cX1_init 6 = .ok (.putfield 9, 3) := by decide +kernel
theorem dX1_init_9 : decode cX1_init 9 = .ok (.aload_n 0, 1) := by decide +kernel
theorem dX1_init_10 : decode cX1_init 10 = .ok (.iconst (-1), 1) := by decide +kernel
theorem dX1_init_11 : decode cX1_init 11 = .ok (.putfield 15, 3) := by decide +kernel
theorem dX1_init_14 : decode cX1_init 14 = .ok (.aload_n 0, 1) := by decide +kernel
theorem dX1_init_15 : decode cX1_init 15 = .ok (.bipush 20, 2) := by decide +kernel
theorem dX1_init_17 : decode cX1_init 17 = .ok (.newarray .int, 2) := by decide +kernel
theorem dX1_init_19 : decode cX1_init 19 = .ok (.putfield 18, 3) := by decide +kernel
theorem dX1_init_22 : decode cX1_init 22 = .ok (.aload_n 0, 1) := by decide +kernel
theorem dX1_init_23 : decode cX1_init 23 = .ok (.iconst 0, 1) := by decide +kernel
theorem dX1_init_24 : decode cX1_init 24 = .ok (.putfield 22, 3) := by decide +kernel
theorem dX1_init_27 : decode cX1_init 27 = .ok (.return_, 1) := by decide +kernel
theorem dX1_remember_0 : decode cX1_remember 0 = .ok (.aload_n 0, 1) := by decide +kernel
theorem dX1_remember_1 : decode cX1_remember 1 = .ok (.iload_n 1, 1) := by decide +kernel
theorem dX1_remember_2 : decode cX1_remember 2 = .ok (.putfield 9, 3) := by decide +kernel
theorem dX1_remember_5 : decode cX1_remember 5 = .ok (.aload_n 0, 1) := by decide +kernel
theorem dX1_remember_6 : decode cX1_remember 6 = .ok (.iload_n 2, 1) := by decide +kernel
theorem dX1_remember_7 : decode cX1_remember 7 = .ok (.putfield 15, 3) := by decide +kernel
theorem dX1_remember_10 : decode cX1_remember 10 = .ok (.aload_n 3, 1) := by decide +kernel
theorem dX1_remember_11 : decode cX1_remember 11 = .ok (.iconst 0, 1) := by decide +kernel
theorem dX1_remember_12 : decode cX1_remember 12 = .ok (.aload_n 0, 1) := by decide +kernel
theorem dX1_remember_13 : decode cX1_remember 13 = .ok (.getfield 18, 3) := by decide +kernel
theorem dX1_remember_16 : decode cX1_remember 16 = .ok (.iconst 0, 1) := by decide +kernel
theorem dX1_remember_17 : decode cX1_remember 17 = .ok (.iload 4, 2) := by decide +kernel
theorem dX1_remember_19 : decode cX1_remember 19 = .ok (.invokestatic 25, 3) := by decide +kernel
theorem dX1_remember_22 : decode cX1_remember 22 = .ok (.aload_n 0, 1) := by decide +kernel
theorem dX1_remember_23 : decode cX1_remember 23 = .ok (.iload 4, 2) := by decide +kernel
theorem dX1_remember_25 : decode cX1_remember 25 = .ok (.putfield 22, 3) := by decide +kernel
theorem dX1_remember_28 : decode cX1_remember 28 = .ok (.return_, 1) := by decide +kernel
theorem dX2_init_0 : decode cX2_init 0 = .ok (.aload_n 0, 1) := by decide +kernel
theorem dX2_init_1 : decode cX2_init 1 = .ok (.invokespecial 3, 3) := by decide +kernel
theorem dX2_init_4 : decode cX2_init 4 = .ok (.aload_n 0, 1) := by decide +kernel
theorem dX2_init_5 : decode cX2_init 5 = .ok (.sipush 300, 3) := by decide +kernel
theorem dX2_init_8 : decode cX2_init 8 = .ok (.newarray .int, 2) := by decide +kernel
theorem dX2_init_10 : decode cX2_init 10 = .ok (.putfield 9, 3) := by decide +kernel
theorem dX2_init_13 : decode cX2_init 13 = .ok (.aload_n 0, 1) := by decide +kernel
theorem dX2_init_14 : decode cX2_init 14 = .ok (.sipush 300, 3) := by decide +kernel
theorem dX2_init_17 : decode cX2_init 17 = .ok (.newarray .int, 2) := by decide +kernel
theorem dX2_init_19 : decode cX2_init 19 = .ok (.putfield 15, 3) := by decide +kernel
theorem dX2_init_22 : decode cX2_init 22 = .ok (.aload_n 0, 1) := by decide +kernel
theorem dX2_init_23 : decode cX2_init 23 = .ok (.sipush 300, 3) := by decide +kernel
theorem dX2_init_26 : decode cX2_init 26 = .ok (.newarray .boolean, 2) := by decide +kernel
theorem dX2_init_28 : decode cX2_init 28 = .ok (.putfield 18, 3) := by decide +kernel
theorem dX2_init_31 : decode cX2_init 31 = .ok (.aload_n 0, 1) := by decide +kernel
theorem dX2_init_32 : decode cX2_init 32 = .ok (.sipush 1800, 3) := by decide +kernel
theorem dX2_init_35 : decode cX2_init 35 = .ok (.newarray .int, 2) := by decide +kernel
theorem dX2_init_37 : decode cX2_init 37 = .ok (.putfield 22, 3) := by decide +kernel
theorem dX2_init_40 : decode cX2_init 40 = .ok (.aload_n 0, 1) := by decide +kernel
theorem dX2_init_41 : decode cX2_init 41 = .ok (.sipush 300, 3) := by decide +kernel
theorem dX2_init_44 : decode cX2_init 44 = .ok (.newarray .int, 2) := by decide +kernel
theorem dX2_init_46 : decode cX2_init 46 = .ok (.putfield 25, 3) := by decide +kernel
theorem dX2_init_49 : decode cX2_init 49 = .ok (.aload_n 0, 1) := by decide +kernel
theorem dX2_init_50 : decode cX2_init 50 = .ok (.iconst 0, 1) := by decide +kernel
theorem dX2_init_51 : decode cX2_init 51 = .ok (.putfield 28, 3) := by decide +kernel
theorem dX2_init_54 : decode cX2_init 54 = .ok (.aload_n 0, 1) := by decide +kernel
theorem dX2_init_55 : decode cX2_init 55 = .ok (.bipush 6, 2) := by decide +kernel
theorem dX2_init_57 : decode cX2_init 57 = .ok (.bipush 20, 2) := by decide +kernel
theorem dX2_init_59 : decode cX2_init 59 = .ok (.multianewarray 32 2, 4) := by decide +kernel
theorem dX2_init_63 : decode cX2_init 63 = .ok (.putfield 34, 3) := by decide +kernel
theorem dX2_init_66 : decode cX2_init 66 = .ok (.aload_n 0, 1) := by decide +kernel
theorem dX2_init_67 : decode cX2_init 67 = .ok (.bipush 20, 2) := by decide +kernel
theorem dX2_init_69 : decode cX2_init 69 = .ok (.newarray .int, 2) := by decide +kernel
theorem dX2_init_71 : decode cX2_init 71 = .ok (.putfield 37, 3) := by decide +kernel
theorem dX2_init_74 : decode cX2_init 74 = .ok (.aload_n 0, 1) := by decide +kernel
theorem dX2_init_75 : decode cX2_init 75 = .ok (.sipush 600, 3) := by decide +kernel
theorem dX2_init_78 : decode cX2_init 78 = .ok (.newarray .int, 2) := by decide +kernel
theorem dX2_init_80 : decode cX2_init 80 = .ok (.putfield 40, 3) := by decide +kernel
theorem dX2_init_83 : decode cX2_init 83 = .ok (.aload_n 0, 1) := by decide +kernel
theorem dX2_init_84 : decode cX2_init 84 = .ok (.iconst 0, 1) := by decide +kernel
theorem dX2_init_85 : decode cX2_init 85 = .ok (.putfield 43, 3) := by decide +kernel
theorem dX2_init_88 : decode cX2_init 88 = .ok (.aload_n 0, 1) := by decide +kernel
theorem dX2_init_89 : decode cX2_init 89 = .ok (.getfield 34, 3) := by decide +kernel
theorem dX2_init_92 : decode cX2_init 92 = .ok (.astore_n 1, 1) := by decide +kernel
theorem dX2_init_93 : decode cX2_init 93 = .ok (.aload_n 1, 1) := by decide +kernel
theorem dX2_init_94 : decode cX2_init 94 = .ok (.arraylength, 1) := by decide +kernel
theorem dX2_init_95 : decode cX2_init 95 = .ok (.istore_n 2, 1) := by decide +kernel
theorem dX2_init_96 : decode cX2_init 96 = .ok (.iconst 0, 1) := by decide +kernel
theorem dX2_init_97 : decode cX2_init 97 = .ok (.istore_n 3, 1) := by decide +kernel
theorem dX2_init_98 : decode cX2_init 98 = .ok (.iload_n 3, 1) := by decide +kernel
theorem dX2_init_99 : decode cX2_init 99 = .ok (.iload_n 2, 1) := by decide +kernel
theorem dX2_init_100 : decode cX2_init 100 = .ok (.if_icmp .ge 20, 3) := by decide +kernel
theorem dX2_init_103 : decode cX2_init 103 = .ok (.aload_n 1, 1) := by decide +kernel
theorem dX2_init_104 : decode cX2_init 104 = .ok (.iload_n 3, 1) := by decide +kernel
theorem dX2_init_105 : decode cX2_init 105 = .ok (.aaload, 1) := by decide +kernel
theorem dX2_init_106 : decode cX2_init 106 = .ok (.astore 4, 2) := by decide +kernel
theorem dX2_init_108 : decode cX2_init 108 = .ok (.aload 4, 2) := by decide +kernel
theorem dX2_init_110 : decode cX2_init 110 = .ok (.iconst (-1), 1) := by decide +kernel
theorem dX2_init_111 : decode cX2_init 111 = .ok (.invokestatic 46, 3) := by decide +kernel
theorem dX2_init_114 : decode cX2_init 114 = .ok (.iinc 3 1, 3) := by decide +kernel
theorem dX2_init_117 : decode cX2_init 117 = .ok (.goto (-19), 3) := by decide +kernel
theorem dX2_init_120 : decode cX2_init 120 = .ok (.return_, 1) := by decide +kernel
theorem dX2_append_0 : decode cX2_append 0 = .ok (.aload_n 0, 1) := by decide +kernel
theorem dX2_append_1 : decode cX2_append 1 = .ok (.getfield 28, 3) := by decide +kernel
theorem dX2_append_4 : decode cX2_append 4 = .ok (.istore 5, 2) := by decide +kernel
theorem dX2_append_6 : decode cX2_append 6 = .ok (.aload_n 0, 1) := by decide +kernel
theorem dX2_append_7 : decode cX2_append 7 = .ok (.getfield 9, 3) := by decide +kernel
theorem dX2_append_10 : decode cX2_append 10 = .ok (.iload 5, 2) := by decide +kernel
theorem dX2_append_12 : decode cX2_append 12 = .ok (.iload_n 1, 1) := by decide +kernel
theorem dX2_append_13 : decode cX2_append 13 = .ok (.iastore, 1) := by decide +kernel
theorem dX2_append_14 : decode cX2_append 14 = .ok (.aload_n 0, 1) := by decide +kernel
theorem dX2_append_15 : decode cX2_append 15 = .ok (.getfield 15, 3) := by decide +kernel
theorem dX2_append_18 : decode cX2_append 18 = .ok (.iload 5, 2) := by decide +kernel
theorem dX2_append_20 : decode cX2_append 20 = .ok (.iload_n 2, 1) := by decide +kernel
theorem dX2_append_21 : decode cX2_append 21 = .ok (.iastore, 1) := by decide +kernel
theorem dX2_append_22 : decode cX2_append 22 = .ok (.aload_n 0, 1) := by decide +kernel
theorem dX2_append_23 : decode cX2_append 23 = .ok (.getfield 18, 3) := by decide +kernel
theorem dX2_append_26 : decode cX2_append 26 = .ok (.iload 5, 2) := by decide +kernel
theorem dX2_append_28 : decode cX2_append 28 = .ok (.iconst 1, 1) := by decide +kernel
theorem dX2_append_29 : decode cX2_append 29 = .ok (.bastore, 1) := by decide +kernel
theorem dX2_append_30 : decode cX2_append 30 = .ok (.aload_n 3, 1) := by decide +kernel
theorem dX2_append_31 : decode cX2_append 31 = .ok (.iconst 0, 1) := by decide +kernel
theorem dX2_append_32 : decode cX2_append 32 = .ok (.aload_n 0, 1) := by decide +kernel
theorem dX2_append_33 : decode cX2_append 33 = .ok (.getfield 22, 3) := by decide +kernel
theorem dX2_append_36 : decode cX2_append 36 = .ok (.iload 5, 2) := by decide +kernel
theorem dX2_append_38 : decode cX2_append 38 = .ok (.bipush 6, 2) := by decide +kernel
theorem dX2_append_40 : decode cX2_append 40 = .ok (.imul, 1) := by decide +kernel
theorem dX2_append_41 : decode cX2_append 41 = .ok (.iload 4, 2) := by decide +kernel
theorem dX2_append_43 : decode cX2_append 43 = .ok (.invokestatic 52, 3) := by decide +kernel
theorem dX2_append_46 : decode cX2_append 46 = .ok (.aload_n 0, 1) := by decide +kernel
theorem dX2_append_47 : decode cX2_append 47 = .ok (.getfield 25, 3) := by decide +kernel
theorem dX2_append_50 : decode cX2_append 50 = .ok (.iload 5, 2) := by decide +kernel
theorem dX2_append_52 : decode cX2_append 52 = .ok (.iload 4, 2) := by decide +kernel
theorem dX2_append_54 : decode cX2_append 54 = .ok (.iastore, 1) := by decide +kernel
theorem dX2_append_55 : decode cX2_append 55 = .ok (.iload_n 2, 1) := by decide +kernel
theorem dX2_append_56 : decode cX2_append 56 = .ok (.iconst (-1), 1) := by decide +kernel
theorem dX2_append_57 : decode cX2_append 57 = .ok (.if_icmp .eq 13, 3) := by decide +kernel
theorem dX2_append_60 : decode cX2_append 60 = .ok (.aload_n 0, 1) := by decide +kernel
theorem dX2_append_61 : decode cX2_append 61 = .ok (.getfield 34, 3) := by decide +kernel
theorem dX2_append_64 : decode cX2_append 64 = .ok (.iload_n 2, 1) := by decide +kernel
theorem dX2_append_65 : decode cX2_append 65 = .ok (.aaload, 1) := by decide +kernel
theorem dX2_append_66 : decode cX2_append 66 = .ok (.iload_n 1, 1) := by decide +kernel
theorem dX2_append_67 : decode cX2_append 67 = .ok (.iload 5, 2) := by decide +kernel
theorem dX2_append_69 : decode cX2_append 69 = .ok (.iastore, 1) := by decide +kernel
theorem dX2_append_70 : decode cX2_append 70 = .ok (.aload_n 0, 1) := by decide +kernel
theorem dX2_append_71 : decode cX2_append 71 = .ok (.getfield 37, 3) := by decide +kernel
theorem dX2_append_74 : decode cX2_append 74 = .ok (.iload_n 1, 1) := by decide +kernel
theorem dX2_append_75 : decode cX2_append 75 = .ok (.dup2, 1) := by decide +kernel
theorem dX2_append_76 : decode cX2_append 76 = .ok (.iaload, 1) := by decide +kernel
theorem dX2_append_77 : decode cX2_append 77 = .ok (.iconst 1, 1) := by decide +kernel
theorem dX2_append_78 : decode cX2_append 78 = .ok (.iadd, 1) := by decide +kernel
theorem dX2_append_79 : decode cX2_append 79 = .ok (.iastore, 1) := by decide +kernel
theorem dX2_append_80 : decode cX2_append 80 = .ok (.aload_n 0, 1) := by decide +kernel
theorem dX2_append_81 : decode cX2_append 81 = .ok (.dup, 1) := by decide +kernel
theorem dX2_append_82 : decode cX2_append 82 = .ok (.getfield 28, 3) := by decide +kernel
theorem dX2_append_85 : decode cX2_append 85 = .ok (.iconst 1, 1) := by decide +kernel
theorem dX2_append_86 : decode cX2_append 86 = .ok (.iadd, 1) := by decide +kernel
theorem dX2_append_87 : decode cX2_append 87 = .ok (.putfield 28, 3) := by decide +kernel
theorem dX2_append_90 : decode cX2_append 90 = .ok (.aload_n 0, 1) := by decide +kernel
theorem dX2_append_91 : decode cX2_append 91 = .ok (.iconst 2, 1) := by decide +kernel
theorem dX2_append_92 : decode cX2_append 92 = .ok (.iload 5, 2) := by decide +kernel
theorem dX2_append_94 : decode cX2_append 94 = .ok (.imul, 1) := by decide +kernel
theorem dX2_append_95 : decode cX2_append 95 = .ok (.invokevirtual 58, 3) := by decide +kernel
theorem dX2_append_98 : decode cX2_append 98 = .ok (.iload 5, 2) := by decide +kernel
theorem dX2_append_100 : decode cX2_append 100 = .ok (.ireturn, 1) := by decide +kernel
theorem dX2_hasInjection_0 : decode cX2_hasInjection 0 = .ok (.iload_n 2, 1) := by decide +kernel
theorem dX2_hasInjection_1 : decode cX2_hasInjection 1 = .ok (.ifCond .lt 17, 3) := by decide +kernel
theorem dX2_hasInjection_4 : decode cX2_hasInjection 4 = .ok (.iload_n 2, 1) := by decide +kernel
theorem dX2_hasInjection_5 : decode cX2_hasInjection 5 = .ok (.aload_n 0, 1) := by decide +kernel
theorem dX2_hasInjection_6 : decode cX2_hasInjection 6 = .ok (.getfield 25, 3) := by decide +kernel
theorem dX2_hasInjection_9 : decode cX2_hasInjection 9 = .ok (.iload_n 1, 1) := by decide +kernel
theorem dX2_hasInjection_10 : decode cX2_hasInjection 10 = .ok (.iaload, 1) := by decide +kernel
theorem dX2_hasInjection_11 : decode cX2_hasInjection 11 = .ok (.if_icmp .ge 7, 3) := by decide +kernel
theorem dX2_hasInjection_14 : decode cX2_hasInjection 14 = .ok (.iconst 1, 1) := by decide +kernel
theorem dX2_hasInjection_15 : decode cX2_hasInjection 15 = .ok (.goto 4, 3) := by decide +kernel
theorem dX2_hasInjection_18 : decode cX2_hasInjection 18 = .ok (.iconst 0, 1) := by decide +kernel
theorem dX2_hasInjection_19 : decode cX2_hasInjection 19 = .ok (.ireturn, 1) := by decide +kernel
theorem dX2_destroyAllIn_0 : decode cX2_destroyAllIn 0 = .ok (.aload_n 0, 1) := by decide +kernel
theorem dX2_destroyAllIn_1 : decode cX2_destroyAllIn 1 = .ok (.iconst 0, 1) := by decide +kernel
theorem dX2_destroyAllIn_2 : decode cX2_destroyAllIn 2 = .ok (.iload_n 1, 1) := by decide +kernel
theorem dX2_destroyAllIn_3 : decode cX2_destroyAllIn 3 = .ok (.invokevirtual 62, 3) := by decide +kernel
theorem dX2_destroyAllIn_6 : decode cX2_destroyAllIn 6 = .ok (.ireturn, 1) := by decide +kernel
theorem dX2_destroyPrototypesFrom_0 : decode cX2_destroyPrototypesFrom 0 = .ok (.aload_n 0, 1) := by decide +kernel
theorem dX2_destroyPrototypesFrom_1 : decode cX2_destroyPrototypesFrom 1 = .ok (.iload_n 1, 1) := by decide +kernel
theorem dX2_destroyPrototypesFrom_2 : decode cX2_destroyPrototypesFrom 2 = .ok (.iconst (-1), 1) := by decide +kernel
theorem dX2_destroyPrototypesFrom_3 : decode cX2_destroyPrototypesFrom 3 = .ok (.invokevirtual 62, 3) := by decide +kernel
theorem dX2_destroyPrototypesFrom_6 : decode cX2_destroyPrototypesFrom 6 = .ok (.pop, 1) := by decide +kernel
theorem dX2_destroyPrototypesFrom_7 : decode cX2_destroyPrototypesFrom 7 = .ok (.return_, 1) := by decide +kernel
theorem dX2_destroyFrom_0 : decode cX2_destroyFrom 0 = .ok (.iconst 0, 1) := by decide +kernel
theorem dX2_destroyFrom_1 : decode cX2_destroyFrom 1 = .ok (.istore_n 3, 1) := by decide +kernel
theorem dX2_destroyFrom_2 : decode cX2_destroyFrom 2 = .ok (.aload_n 0, 1) := by decide +kernel
theorem dX2_destroyFrom_3 : decode cX2_destroyFrom 3 = .ok (.getfield 28, 3) := by decide +kernel
theorem dX2_destroyFrom_6 : decode cX2_destroyFrom 6 = .ok (.iconst 1, 1) := by decide +kernel
theorem dX2_destroyFrom_7 : decode cX2_destroyFrom 7 = .ok (.isub, 1) := by decide +kernel
theorem dX2_destroyFrom_8 : decode cX2_destroyFrom 8 = .ok (.istore 4, 2) := by decide +kernel
theorem dX2_destroyFrom_10 : decode cX2_destroyFrom 10 = .ok (.iload 4, 2) := by decide +kernel
theorem dX2_destroyFrom_12 : decode cX2_destroyFrom 12 = .ok (.iload_n 1, 1) := by decide +kernel
theorem dX2_destroyFrom_13 : decode cX2_destroyFrom 13 = .ok (.if_icmp .lt 39, 3) := by decide +kernel
theorem dX2_destroyFrom_16 : decode cX2_destroyFrom 16 = .ok (.aload_n 0, 1) := by decide +kernel
theorem dX2_destroyFrom_17 : decode cX2_destroyFrom 17 = .ok (.getfield 18, 3) := by decide +kernel
theorem dX2_destroyFrom_20 : decode cX2_destroyFrom 20 = .ok (.iload 4, 2) := by decide +kernel
theorem dX2_destroyFrom_22 : decode cX2_destroyFrom 22 = .ok (.baload, 1) := by decide +kernel
theorem dX2_destroyFrom_23 : decode cX2_destroyFrom 23 = .ok (.ifCond .eq 23, 3) := by decide +kernel
theorem dX2_destroyFrom_26 : decode cX2_destroyFrom 26 = .ok (.aload_n 0, 1) := by decide +kernel
theorem dX2_destroyFrom_27 : decode cX2_destroyFrom 27 = .ok (.getfield 15, 3) := by decide +kernel
theorem dX2_destroyFrom_30 : decode cX2_destroyFrom 30 = .ok (.iload 4, 2) := by decide +kernel
theorem dX2_destroyFrom_32 : decode cX2_destroyFrom 32 = .ok (.iaload, 1) := by decide +kernel
theorem dX2_destroyFrom_33 : decode cX2_destroyFrom 33 = .ok (.iload_n 2, 1) := by decide +kernel
theorem dX2_destroyFrom_34 : decode cX2_destroyFrom 34 = .ok (.if_icmp .ne 12, 3) := by decide +kernel
theorem dX2_destroyFrom_37 : decode cX2_destroyFrom 37 = .ok (.aload_n 0, 1) := by decide +kernel
theorem dX2_destroyFrom_38 : decode cX2_destroyFrom 38 = .ok (.iload 4, 2) := by decide +kernel
theorem dX2_destroyFrom_40 : decode cX2_destroyFrom 40 = .ok (.invokevirtual 66, 3) := by decide +kernel
theorem dX2_destroyFrom_43 : decode cX2_destroyFrom 43 = .ok (.iinc 3 1, 3) := by decide +kernel
theorem dX2_destroyFrom_46 : decode cX2_destroyFrom 46 = .ok (.iinc 4 (-1), 3) := by decide +kernel
theorem dX2_destroyFrom_49 : decode cX2_destroyFrom 49 = .ok (.goto (-39), 3) := by decide +kernel
theorem dX2_destroyFrom_52 : decode cX2_destroyFrom 52 = .ok (.iload_n 3, 1) := by decide +kernel
theorem dX2_destroyFrom_53 : decode cX2_destroyFrom 53 = .ok (.ireturn, 1) := by decide +kernel
theorem dX2_destroy_0 : decode cX2_destroy 0 = .ok (.aload_n 0, 1) := by decide +kernel
theorem dX2_destroy_1 : decode cX2_destroy 1 = .ok (.getfield 18, 3) := by decide +kernel
theorem dX2_destroy_4 : decode cX2_destroy 4 = .ok (.iload_n 1, 1) := by decide +kernel
theorem dX2_destroy_5 : decode cX2_destroy 5 = .ok (.iconst 0, 1) := by decide +kernel
theorem dX2_destroy_6 : decode cX2_destroy 6 = .ok (.bastore, 1) := by decide +kernel
theorem dX2_destroy_7 : decode cX2_destroy 7 = .ok (.aload_n 0, 1) := by decide +kernel
theorem dX2_destroy_8 : decode cX2_destroy 8 = .ok (.getfield 15, 3) := by decide +kernel
theorem dX2_destroy_11 : decode cX2_destroy 11 = .ok (.iload_n 1, 1) := by decide +kernel
theorem dX2_destroy_12 : decode cX2_destroy 12 = .ok (.iaload, 1) := by decide +kernel
theorem dX2_destroy_13 : decode cX2_destroy 13 = .ok (.istore_n 2, 1) := by decide +kernel
theorem dX2_destroy_14 : decode cX2_destroy 14 = .ok (.iload_n 2, 1) := by decide +kernel
theorem dX2_destroy_15 : decode cX2_destroy 15 = .ok (.iconst (-1), 1) := by decide +kernel
theorem dX2_destroy_16 : decode cX2_destroy 16 = .ok (.if_icmp .eq 17, 3) := by decide +kernel
theorem dX2_destroy_19 : decode cX2_destroy 19 = .ok (.aload_n 0, 1) := by decide +kernel
theorem dX2_destroy_20 : decode cX2_destroy 20 = .ok (.getfield 34, 3) := by decide +kernel
theorem dX2_destroy_23 : decode cX2_destroy 23 = .ok (.iload_n 2, 1) := by decide +kernel
theorem dX2_destroy_24 : decode cX2_destroy 24 = .ok (.aaload, 1) := by decide +kernel
theorem dX2_destroy_25 : decode cX2_destroy 25 = .ok (.aload_n 0, 1) := by decide +kernel
theorem dX2_destroy_26 : decode cX2_destroy 26 = .ok (.getfield 9, 3) := by decide +kernel
theorem dX2_destroy_29 : decode cX2_destroy 29 = .ok (.iload_n 1, 1) := by decide +kernel
theorem dX2_destroy_30 : decode cX2_destroy 30 = .ok (.iaload, 1) := by decide +kernel
theorem dX2_destroy_31 : decode cX2_destroy 31 = .ok (.iconst (-1), 1) := by decide +kernel
theorem dX2_destroy_32 : decode cX2_destroy 32 = .ok (.iastore, 1) := by decide +kernel
theorem dX2_destroy_33 : decode cX2_destroy 33 = .ok (.aload_n 0, 1) := by decide +kernel
theorem dX2_destroy_34 : decode cX2_destroy 34 = .ok (.iconst 2, 1) := by decide +kernel
theorem dX2_destroy_35 : decode cX2_destroy 35 = .ok (.iload_n 1, 1) := by decide +kernel
theorem dX2_destroy_36 : decode cX2_destroy 36 = .ok (.imul, 1) := by decide +kernel
theorem dX2_destroy_37 : decode cX2_destroy 37 = .ok (.iconst 1, 1) := by decide +kernel
theorem dX2_destroy_38 : decode cX2_destroy 38 = .ok (.iadd, 1) := by decide +kernel
theorem dX2_destroy_39 : decode cX2_destroy 39 = .ok (.invokevirtual 58, 3) := by decide +kernel
theorem dX2_destroy_42 : decode cX2_destroy 42 = .ok (.return_, 1) := by decide +kernel
theorem dX2_recordEvent_0 : decode cX2_recordEvent 0 = .ok (.aload_n 0, 1) := by decide +kernel
theorem dX2_recordEvent_1 : decode cX2_recordEvent 1 = .ok (.getfield 43, 3) := by decide +kernel
theorem dX2_recordEvent_4 : decode cX2_recordEvent 4 = .ok (.aload_n 0, 1) := by decide +kernel
theorem dX2_recordEvent_5 : decode cX2_recordEvent 5 = .ok (.getfield 40, 3) := by decide +kernel
theorem dX2_recordEvent_8 : decode cX2_recordEvent 8 = .ok (.arraylength, 1) := by decide +kernel
theorem dX2_recordEvent_9 : decode cX2_recordEvent 9 = .ok (.if_icmp .ge 23, 3) := by decide +kernel
theorem dX2_recordEvent_12 : decode cX2_recordEvent 12 = .ok (.aload_n 0, 1) := by decide +kernel
theorem dX2_recordEvent_13 : decode cX2_recordEvent 13 = .ok (.getfield 40, 3) := by decide +kernel
theorem dX2_recordEvent_16 : decode cX2_recordEvent 16 = .ok (.aload_n 0, 1) := by decide +kernel
theorem dX2_recordEvent_17 : decode cX2_recordEvent 17 = .ok (.getfield 43, 3) := by decide +kernel
theorem dX2_recordEvent_20 : decode cX2_recordEvent 20 = .ok (.iload_n 1, 1) := by decide +kernel
theorem dX2_recordEvent_21 : decode cX2_recordEvent 21 = .ok (.iastore, 1) := by decide +kernel
theorem dX2_recordEvent_22 : decode cX2_recordEvent 22 = .ok (.aload_n 0, 1) := by decide +kernel
theorem dX2_recordEvent_23 : decode cX2_recordEvent 23 = .ok (.dup, 1) := by decide +kernel
theorem dX2_recordEvent_24 : decode cX2_recordEvent 24 = .ok (.getfield 43, 3) := by decide +kernel
theorem dX2_recordEvent_27 : decode cX2_recordEvent 27 = .ok (.iconst 1, 1) := by decide +kernel
theorem dX2_recordEvent_28 : decode cX2_recordEvent 28 = .ok (.iadd, 1) := by decide +kernel
theorem dX2_recordEvent_29 : decode cX2_recordEvent 29 = .ok (.putfield 43, 3) := by decide +kernel
theorem dX2_recordEvent_32 : decode cX2_recordEvent 32 = .ok (.return_, 1) := by decide +kernel
theorem dX3_init_0 : decode cX3_init 0 = .ok (.aload_n 0, 1) := by decide +kernel
theorem dX3_init_1 : decode cX3_init 1 = .ok (.invokespecial 1, 3) := by decide +kernel
theorem dX3_init_4 : decode cX3_init 4 = .ok (.aload_n 0, 1) := by decide +kernel
theorem dX3_init_5 : decode cX3_init 5 = .ok (.new 7, 3) := by decide +kernel
theorem dX3_init_8 : decode cX3_init 8 = .ok (.dup, 1) := by decide +kernel
theorem dX3_init_9 : decode cX3_init 9 = .ok (.invokespecial 9, 3) := by decide +kernel
theorem dX3_init_12 : decode cX3_init 12 = .ok (.putfield 10, 3) := by decide +kernel
theorem dX3_init_15 : decode cX3_init 15 = .ok (.aload_n 0, 1) := by decide +kernel
theorem dX3_init_16 : decode cX3_init 16 = .ok (.new 16, 3) := by decide +kernel
theorem dX3_init_19 : decode cX3_init 19 = .ok (.dup, 1) := by decide +kernel
theorem dX3_init_20 : decode cX3_init 20 = .ok (.invokespecial 18, 3) := by decide +kernel
theorem dX3_init_23 : decode cX3_init 23 = .ok (.putfield 19, 3) := by decide +kernel
theorem dX3_init_26 : decode cX3_init 26 = .ok (.aload_n 0, 1) := by decide +kernel
theorem dX3_init_27 : decode cX3_init 27 = .ok (.new 23, 3) := by decide +kernel
theorem dX3_init_30 : decode cX3_init 30 = .ok (.dup, 1) := by decide +kernel
theorem dX3_init_31 : decode cX3_init 31 = .ok (.invokespecial 25, 3) := by decide +kernel
theorem dX3_init_34 : decode cX3_init 34 = .ok (.putfield 26, 3) := by decide +kernel
theorem dX3_init_37 : decode cX3_init 37 = .ok (.aload_n 0, 1) := by decide +kernel
theorem dX3_init_38 : decode cX3_init 38 = .ok (.iconst 0, 1) := by decide +kernel
theorem dX3_init_39 : decode cX3_init 39 = .ok (.putfield 30, 3) := by decide +kernel
theorem dX3_init_42 : decode cX3_init 42 = .ok (.aload_n 0, 1) := by decide +kernel
theorem dX3_init_43 : decode cX3_init 43 = .ok (.bipush 20, 2) := by decide +kernel
theorem dX3_init_45 : decode cX3_init 45 = .ok (.newarray .int, 2) := by decide +kernel
theorem dX3_init_47 : decode cX3_init 47 = .ok (.putfield 34, 3) := by decide +kernel
theorem dX3_init_50 : decode cX3_init 50 = .ok (.aload_n 0, 1) := by decide +kernel
theorem dX3_init_51 : decode cX3_init 51 = .ok (.bipush 20, 2) := by decide +kernel
theorem dX3_init_53 : decode cX3_init 53 = .ok (.bipush 6, 2) := by decide +kernel
theorem dX3_init_55 : decode cX3_init 55 = .ok (.multianewarray 38 2, 4) := by decide +kernel
theorem dX3_init_59 : decode cX3_init 59 = .ok (.putfield 40, 3) := by decide +kernel
theorem dX3_init_62 : decode cX3_init 62 = .ok (.aload_n 0, 1) := by decide +kernel
theorem dX3_init_63 : decode cX3_init 63 = .ok (.iconst 0, 1) := by decide +kernel
theorem dX3_init_64 : decode cX3_init 64 = .ok (.putfield 43, 3) := by decide +kernel
theorem dX3_init_67 : decode cX3_init 67 = .ok (.return_, 1) := by decide +kernel
theorem dX3_add_0 : decode cX3_add 0 = .ok (.iconst 0, 1) := by decide +kernel
theorem dX3_add_1 : decode cX3_add 1 = .ok (.iload_n 1, 1) := by decide +kernel
theorem dX3_add_2 : decode cX3_add 2 = .ok (.invokestatic 46, 3) := by decide +kernel
theorem dX3_add_5 : decode cX3_add 5 = .ok (.ifCond .eq 11, 3) := by decide +kernel
theorem dX3_add_8 : decode cX3_add 8 = .ok (.iconst 1, 1) := by decide +kernel
theorem dX3_add_9 : decode cX3_add 9 = .ok (.iload_n 2, 1) := by decide +kernel
theorem dX3_add_10 : decode cX3_add 10 = .ok (.invokestatic 46, 3) := by decide +kernel
theorem dX3_add_13 : decode cX3_add 13 = .ok (.ifCond .ne 13, 3) := by decide +kernel
theorem dX3_add_16 : decode cX3_add 16 = .ok (.new 50, 3) := by decide +kernel
theorem dX3_add_19 : decode cX3_add 19 = .ok (.dup, 1) := by decide +kernel
theorem dX3_add_20 : decode cX3_add 20 = .ok (.ldc 52, 2) := by decide +kernel
theorem dX3_add_22 : decode cX3_add 22 = .ok (.invokespecial 54, 3) := by decide +kernel
theorem dX3_add_25 : decode cX3_add 25 = .ok (.athrow, 1) := by decide +kernel
theorem dX3_add_26 : decode cX3_add 26 = .ok (.aload_n 0, 1) := by decide +kernel
theorem dX3_add_27 : decode cX3_add 27 = .ok (.getfield 10, 3) := by decide +kernel
theorem dX3_add_30 : decode cX3_add 30 = .ok (.getfield 57, 3) := by decide +kernel
theorem dX3_add_33 : decode cX3_add 33 = .ok (.bipush 20, 2) := by decide +kernel
theorem dX3_add_35 : decode cX3_add 35 = .ok (.if_icmp .lt 13, 3) := by decide +kernel
theorem dX3_add_38 : decode cX3_add 38 = .ok (.new 60, 3) := by decide +kernel
theorem dX3_add_41 : decode cX3_add 41 = .ok (.dup, 1) := by decide +kernel
theorem dX3_add_42 : decode cX3_add 42 = .ok (.ldc 62, 2) := by decide +kernel
theorem dX3_add_44 : decode cX3_add 44 = .ok (.invokespecial 64, 3) := by decide +kernel
theorem dX3_add_47 : decode cX3_add 47 = .ok (.athrow, 1) := by decide +kernel
theorem dX3_add_48 : decode cX3_add 48 = .ok (.aload_n 0, 1) := by decide +kernel
theorem dX3_add_49 : decode cX3_add 49 = .ok (.getfield 10, 3) := by decide +kernel
theorem dX3_add_52 : decode cX3_add 52 = .ok (.iload_n 1, 1) := by decide +kernel
theorem dX3_add_53 : decode cX3_add 53 = .ok (.iload_n 2, 1) := by decide +kernel
theorem dX3_add_54 : decode cX3_add 54 = .ok (.invokevirtual 65, 3) := by decide +kernel
theorem dX3_add_57 : decode cX3_add 57 = .ok (.ireturn, 1) := by decide +kernel
theorem dX3_set_0 : decode cX3_set 0 = .ok (.aload_n 0, 1) := by decide +kernel
theorem dX3_set_1 : decode cX3_set 1 = .ok (.iload_n 1, 1) := by decide +kernel
theorem dX3_set_2 : decode cX3_set 2 = .ok (.invokevirtual 69, 3) := by decide +kernel
theorem dX3_set_5 : decode cX3_set 5 = .ok (.aload_n 0, 1) := by decide +kernel
theorem dX3_set_6 : decode cX3_set 6 = .ok (.iload_n 2, 1) := by decide +kernel
theorem dX3_set_7 : decode cX3_set 7 = .ok (.invokevirtual 73, 3) := by decide +kernel
theorem dX3_set_10 : decode cX3_set 10 = .ok (.iload_n 2, 1) := by decide +kernel
theorem dX3_set_11 : decode cX3_set 11 = .ok (.iload_n 3, 1) := by decide +kernel
theorem dX3_set_12 : decode cX3_set 12 = .ok (.invokestatic 46, 3) := by decide +kernel
theorem dX3_set_15 : decode cX3_set 15 = .ok (.ifCond .ne 13, 3) := by decide +kernel
theorem dX3_set_18 : decode cX3_set 18 = .ok (.new 50, 3) := by decide +kernel
theorem dX3_set_21 : decode cX3_set 21 = .ok (.dup, 1) := by decide +kernel
theorem dX3_set_22 : decode cX3_set 22 = .ok (.ldc 76, 2) := by decide +kernel
theorem dX3_set_24 : decode cX3_set 24 = .ok (.invokespecial 54, 3) := by decide +kernel
theorem dX3_set_27 : decode cX3_set 27 = .ok (.athrow, 1) := by decide +kernel
theorem dX3_set_28 : decode cX3_set 28 = .ok (.aload_n 0, 1) := by decide +kernel
theorem dX3_set_29 : decode cX3_set 29 = .ok (.getfield 10, 3) := by decide +kernel
theorem dX3_set_32 : decode cX3_set 32 = .ok (.getfield 78, 3) := by decide +kernel
theorem dX3_set_35 : decode cX3_set 35 = .ok (.iload_n 1, 1) := by decide +kernel
theorem dX3_set_36 : decode cX3_set 36 = .ok (.aaload, 1) := by decide +kernel
theorem dX3_set_37 : decode cX3_set 37 = .ok (.iload_n 2, 1) := by decide +kernel
theorem dX3_set_38 : decode cX3_set 38 = .ok (.iaload, 1) := by decide +kernel
theorem dX3_set_39 : decode cX3_set 39 = .ok (.istore 4, 2) := by decide +kernel
theorem dX3_set_41 : decode cX3_set 41 = .ok (.aload_n 0, 1) := by decide +kernel
theorem dX3_set_42 : decode cX3_set 42 = .ok (.getfield 10, 3) := by decide +kernel
theorem dX3_set_45 : decode cX3_set 45 = .ok (.getfield 78, 3) := by decide +kernel
theorem dX3_set_48 : decode cX3_set 48 = .ok (.iload_n 1, 1) := by decide +kernel
theorem dX3_set_49 : decode cX3_set 49 = .ok (.aaload, 1) := by decide +kernel
theorem dX3_set_50 : decode cX3_set 50 = .ok (.iload_n 2, 1) := by decide +kernel
theorem dX3_set_51 : decode cX3_set 51 = .ok (.iload_n 3, 1) := by decide +kernel
theorem dX3_set_52 : decode cX3_set 52 = .ok (.iastore, 1) := by decide +kernel
theorem dX3_set_53 : decode cX3_set 53 = .ok (.iload 4, 2) := by decide +kernel
theorem dX3_set_55 : decode cX3_set 55 = .ok (.ireturn, 1) := by decide +kernel
theorem dX3_property_0 : decode cX3_property 0 = .ok (.aload_n 0, 1) := by decide +kernel
theorem dX3_property_1 : decode cX3_property 1 = .ok (.iload_n 1, 1) := by decide +kernel
theorem dX3_property_2 : decode cX3_property 2 = .ok (.invokevirtual 69, 3) := by decide +kernel
theorem dX3_property_5 : decode cX3_property 5 = .ok (.aload_n 0, 1) := by decide +kernel
theorem dX3_property_6 : decode cX3_property 6 = .ok (.iload_n 2, 1) := by decide +kernel
theorem dX3_property_7 : decode cX3_property 7 = .ok (.invokevirtual 73, 3) := by decide +kernel
theorem dX3_property_10 : decode cX3_property 10 = .ok (.aload_n 0, 1) := by decide +kernel
theorem dX3_property_11 : decode cX3_property 11 = .ok (.getfield 10, 3) := by decide +kernel
theorem dX3_property_14 : decode cX3_property 14 = .ok (.getfield 78, 3) := by decide +kernel
theorem dX3_property_17 : decode cX3_property 17 = .ok (.iload_n 1, 1) := by decide +kernel
theorem dX3_property_18 : decode cX3_property 18 = .ok (.aaload, 1) := by decide +kernel
theorem dX3_property_19 : decode cX3_property 19 = .ok (.iload_n 2, 1) := by decide +kernel
theorem dX3_property_20 : decode cX3_property 20 = .ok (.iaload, 1) := by decide +kernel
theorem dX3_property_21 : decode cX3_property 21 = .ok (.ireturn, 1) := by decide +kernel
theorem dX3_depend_0 : decode cX3_depend 0 = .ok (.aload_n 0, 1) := by decide +kernel
theorem dX3_depend_1 : decode cX3_depend 1 = .ok (.iload_n 1, 1) := by decide +kernel
theorem dX3_depend_2 : decode cX3_depend 2 = .ok (.invokevirtual 69, 3) := by decide +kernel
theorem dX3_depend_5 : decode cX3_depend 5 = .ok (.aload_n 0, 1) := by decide +kernel
theorem dX3_depend_6 : decode cX3_depend 6 = .ok (.iload_n 2, 1) := by decide +kernel
theorem dX3_depend_7 : decode cX3_depend 7 = .ok (.iload_n 3, 1) := by decide +kernel
theorem dX3_depend_8 : decode cX3_depend 8 = .ok (.invokevirtual 81, 3) := by decide +kernel
theorem dX3_depend_11 : decode cX3_depend 11 = .ok (.iload 4, 2) := by decide +kernel
theorem dX3_depend_13 : decode cX3_depend 13 = .ok (.iconst 0, 1) := by decide +kernel
theorem dX3_depend_14 : decode cX3_depend 14 = .ok (.iconst 3, 1) := by decide +kernel
theorem dX3_depend_15 : decode cX3_depend 15 = .ok (.invokestatic 85, 3) := by decide +kernel
theorem dX3_depend_18 : decode cX3_depend 18 = .ok (.ifCond .ne 13, 3) := by decide +kernel
theorem dX3_depend_21 : decode cX3_depend 21 = .ok (.new 50, 3) := by decide +kernel
theorem dX3_depend_24 : decode cX3_depend 24 = .ok (.dup, 1) := by decide +kernel
theorem dX3_depend_25 : decode cX3_depend 25 = .ok (.ldc 89, 2) := by decide +kernel
theorem dX3_depend_27 : decode cX3_depend 27 = .ok (.invokespecial 54, 3) := by decide +kernel
theorem dX3_depend_30 : decode cX3_depend 30 = .ok (.athrow, 1) := by decide +kernel
theorem dX3_depend_31 : decode cX3_depend 31 = .ok (.aload_n 0, 1) := by decide +kernel
theorem dX3_depend_32 : decode cX3_depend 32 = .ok (.getfield 10, 3) := by decide +kernel
theorem dX3_depend_35 : decode cX3_depend 35 = .ok (.getfield 91, 3) := by decide +kernel
theorem dX3_depend_38 : decode cX3_depend 38 = .ok (.iload_n 1, 1) := by decide +kernel
theorem dX3_depend_39 : decode cX3_depend 39 = .ok (.iaload, 1) := by decide +kernel
theorem dX3_depend_40 : decode cX3_depend 40 = .ok (.bipush 6, 2) := by decide +kernel
theorem dX3_depend_42 : decode cX3_depend 42 = .ok (.if_icmp .lt 13, 3) := by decide +kernel
theorem dX3_depend_45 : decode cX3_depend 45 = .ok (.new 60, 3) := by decide +kernel
theorem dX3_depend_48 : decode cX3_depend 48 = .ok (.dup, 1) := by decide +kernel
theorem dX3_depend_49 : decode cX3_depend 49 = .ok (.ldc 94, 2) := by decide +kernel
theorem dX3_depend_51 : decode cX3_depend 51 = .ok (.invokespecial 64, 3) := by decide +kernel
theorem dX3_depend_54 : decode cX3_depend 54 = .ok (.athrow, 1) := by decide +kernel
theorem dX3_depend_55 : decode cX3_depend 55 = .ok (.aload_n 0, 1) := by decide +kernel
theorem dX3_depend_56 : decode cX3_depend 56 = .ok (.getfield 10, 3) := by decide +kernel
theorem dX3_depend_59 : decode cX3_depend 59 = .ok (.iload_n 1, 1) := by decide +kernel
theorem dX3_depend_60 : decode cX3_depend 60 = .ok (.iload_n 2, 1) := by decide +kernel
theorem dX3_depend_61 : decode cX3_depend 61 = .ok (.iload_n 3, 1) := by decide +kernel
theorem dX3_depend_62 : decode cX3_depend 62 = .ok (.iload 4, 2) := by decide +kernel
theorem dX3_depend_64 : decode cX3_depend 64 = .ok (.invokevirtual 96, 3) := by decide +kernel
theorem dX3_depend_67 : decode cX3_depend 67 = .ok (.ireturn, 1) := by decide +kernel
theorem dX3_clear_0 : decode cX3_clear 0 = .ok (.aload_n 0, 1) := by decide +kernel
theorem dX3_clear_1 : decode cX3_clear 1 = .ok (.iload_n 1, 1) := by decide +kernel
theorem dX3_clear_2 : decode cX3_clear 2 = .ok (.invokevirtual 69, 3) := by decide +kernel
theorem dX3_clear_5 : decode cX3_clear 5 = .ok (.aload_n 0, 1) := by decide +kernel
theorem dX3_clear_6 : decode cX3_clear 6 = .ok (.getfield 10, 3) := by decide +kernel
theorem dX3_clear_9 : decode cX3_clear 9 = .ok (.getfield 91, 3) := by decide +kernel
theorem dX3_clear_12 : decode cX3_clear 12 = .ok (.iload_n 1, 1) := by decide +kernel
theorem dX3_clear_13 : decode cX3_clear 13 = .ok (.iaload, 1) := by decide +kernel
theorem dX3_clear_14 : decode cX3_clear 14 = .ok (.istore_n 2, 1) := by decide +kernel
theorem dX3_clear_15 : decode cX3_clear 15 = .ok (.aload_n 0, 1) := by decide +kernel
theorem dX3_clear_16 : decode cX3_clear 16 = .ok (.getfield 10, 3) := by decide +kernel
theorem dX3_clear_19 : decode cX3_clear 19 = .ok (.getfield 91, 3) := by decide +kernel
theorem dX3_clear_22 : decode cX3_clear 22 = .ok (.iload_n 1, 1) := by decide +kernel
theorem dX3_clear_23 : decode cX3_clear 23 = .ok (.iconst 0, 1) := by decide +kernel
theorem dX3_clear_24 : decode cX3_clear 24 = .ok (.iastore, 1) := by decide +kernel
theorem dX3_clear_25 : decode cX3_clear 25 = .ok (.iload_n 2, 1) := by decide +kernel
theorem dX3_clear_26 : decode cX3_clear 26 = .ok (.ireturn, 1) := by decide +kernel
theorem dX3_dependency_0 : decode cX3_dependency 0 = .ok (.aload_n 0, 1) := by decide +kernel
theorem dX3_dependency_1 : decode cX3_dependency 1 = .ok (.iload_n 1, 1) := by decide +kernel
theorem dX3_dependency_2 : decode cX3_dependency 2 = .ok (.invokevirtual 69, 3) := by decide +kernel
theorem dX3_dependency_5 : decode cX3_dependency 5 = .ok (.iload_n 3, 1) := by decide +kernel
theorem dX3_dependency_6 : decode cX3_dependency 6 = .ok (.iconst 0, 1) := by decide +kernel
theorem dX3_dependency_7 : decode cX3_dependency 7 = .ok (.iconst 2, 1) := by decide +kernel
theorem dX3_dependency_8 : decode cX3_dependency 8 = .ok (.invokestatic 85, 3) := by decide +kernel
theorem dX3_dependency_11 : decode cX3_dependency 11 = .ok (.ifCond .ne 13, 3) := by decide +kernel
theorem dX3_dependency_14 : decode cX3_dependency 14 = .ok (.new 50, 3) := by decide +kernel
theorem dX3_dependency_17 : decode cX3_dependency 17 = .ok (.dup, 1) := by decide +kernel
theorem dX3_dependency_18 : decode cX3_dependency 18 = .ok (.ldc 100, 2) := by decide +kernel
theorem dX3_dependency_20 : decode cX3_dependency 20 = .ok (.invokespecial 54, 3) := by decide +kernel
theorem dX3_dependency_23 : decode cX3_dependency 23 = .ok (.athrow, 1) := by decide +kernel
theorem dX3_dependency_24 : decode cX3_dependency 24 = .ok (.iload_n 2, 1) := by decide +kernel
theorem dX3_dependency_25 : decode cX3_dependency 25 = .ok (.iconst (-1), 1) := by decide +kernel
theorem dX3_dependency_26 : decode cX3_dependency 26 = .ok (.if_icmp .ne 13, 3) := by decide +kernel
theorem dX3_dependency_29 : decode cX3_dependency 29 = .ok (.aload_n 0, 1) := by decide +kernel
theorem dX3_dependency_30 : decode cX3_dependency 30 = .ok (.getfield 10, 3) := by decide +kernel
theorem dX3_dependency_33 : decode cX3_dependency 33 = .ok (.getfield 91, 3) := by decide +kernel
theorem dX3_dependency_36 : decode cX3_dependency 36 = .ok (.iload_n 1, 1) := by decide +kernel
theorem dX3_dependency_37 : decode cX3_dependency 37 = .ok (.iaload, 1) := by decide +kernel
theorem dX3_dependency_38 : decode cX3_dependency 38 = .ok (.ireturn, 1) := by decide +kernel
theorem dX3_dependency_39 : decode cX3_dependency 39 = .ok (.aload_n 0, 1) := by decide +kernel
theorem dX3_dependency_40 : decode cX3_dependency 40 = .ok (.getfield 10, 3) := by decide +kernel
theorem dX3_dependency_43 : decode cX3_dependency 43 = .ok (.iload_n 1, 1) := by decide +kernel
theorem dX3_dependency_44 : decode cX3_dependency 44 = .ok (.iload_n 2, 1) := by decide +kernel
theorem dX3_dependency_45 : decode cX3_dependency 45 = .ok (.invokevirtual 102, 3) := by decide +kernel
theorem dX3_dependency_48 : decode cX3_dependency 48 = .ok (.ifCond .eq 16, 3) := by decide +kernel
theorem dX3_dependency_51 : decode cX3_dependency 51 = .ok (.aload_n 0, 1) := by decide +kernel
theorem dX3_dependency_52 : decode cX3_dependency 52 = .ok (.getfield 10, 3) := by decide +kernel
theorem dX3_dependency_55 : decode cX3_dependency 55 = .ok (.iload_n 1, 1) := by decide +kernel
theorem dX3_dependency_56 : decode cX3_dependency 56 = .ok (.iload_n 2, 1) := by decide +kernel
theorem dX3_dependency_57 : decode cX3_dependency 57 = .ok (.iload_n 3, 1) := by decide +kernel
theorem dX3_dependency_58 : decode cX3_dependency 58 = .ok (.invokevirtual 105, 3) := by decide +kernel
theorem dX3_dependency_61 : decode cX3_dependency 61 = .ok (.goto 4, 3) := by decide +kernel
theorem dX3_dependency_64 : decode cX3_dependency 64 = .ok (.iconst (-1), 1) := by decide +kernel
theorem dX3_dependency_65 : decode cX3_dependency 65 = .ok (.ireturn, 1) := by decide +kernel
theorem dX3_profile_0 : decode cX3_profile 0 = .ok (.iload_n 1, 1) := by decide +kernel
theorem dX3_profile_1 : decode cX3_profile 1 = .ok (.iconst 0, 1) := by decide +kernel
theorem dX3_profile_2 : decode cX3_profile 2 = .ok (.bipush 7, 2) := by decide +kernel
theorem dX3_profile_4 : decode cX3_profile 4 = .ok (.invokestatic 85, 3) := by decide +kernel
theorem dX3_profile_7 : decode cX3_profile 7 = .ok (.ifCond .ne 13, 3) := by decide +kernel
theorem dX3_profile_10 : decode cX3_profile 10 = .ok (.new 50, 3) := by decide +kernel
theorem dX3_profile_13 : decode cX3_profile 13 = .ok (.dup, 1) := by decide +kernel
theorem dX3_profile_14 : decode cX3_profile 14 = .ok (.ldc 109, 2) := by decide +kernel
theorem dX3_profile_16 : decode cX3_profile 16 = .ok (.invokespecial 54, 3) := by decide +kernel
theorem dX3_profile_19 : decode cX3_profile 19 = .ok (.athrow, 1) := by decide +kernel
theorem dX3_profile_20 : decode cX3_profile 20 = .ok (.aload_n 0, 1) := by decide +kernel
theorem dX3_profile_21 : decode cX3_profile 21 = .ok (.getfield 10, 3) := by decide +kernel
theorem dX3_profile_24 : decode cX3_profile 24 = .ok (.getfield 111, 3) := by decide +kernel
theorem dX3_profile_27 : decode cX3_profile 27 = .ok (.iload_n 1, 1) := by decide +kernel
theorem dX3_profile_28 : decode cX3_profile 28 = .ok (.invokestatic 114, 3) := by decide +kernel
theorem dX3_profile_31 : decode cX3_profile 31 = .ok (.istore_n 3, 1) := by decide +kernel
theorem dX3_profile_32 : decode cX3_profile 32 = .ok (.aload_n 0, 1) := by decide +kernel
theorem dX3_profile_33 : decode cX3_profile 33 = .ok (.getfield 10, 3) := by decide +kernel
theorem dX3_profile_36 : decode cX3_profile 36 = .ok (.iload_n 1, 1) := by decide +kernel
theorem dX3_profile_37 : decode cX3_profile 37 = .ok (.iload_n 2, 1) := by decide +kernel
theorem dX3_profile_38 : decode cX3_profile 38 = .ok (.invokevirtual 117, 3) := by decide +kernel
theorem dX3_profile_41 : decode cX3_profile 41 = .ok (.iload_n 3, 1) := by decide +kernel
theorem dX3_profile_42 : decode cX3_profile 42 = .ok (.ireturn, 1) := by decide +kernel
theorem dX3_components_0 : decode cX3_components 0 = .ok (.aload_n 0, 1) := by decide +kernel
theorem dX3_components_1 : decode cX3_components 1 = .ok (.getfield 10, 3) := by decide +kernel
theorem dX3_components_4 : decode cX3_components 4 = .ok (.getfield 57, 3) := by decide +kernel
theorem dX3_components_7 : decode cX3_components 7 = .ok (.ireturn, 1) := by decide +kernel
theorem dX3_candidates_0 : decode cX3_candidates 0 = .ok (.aload_n 0, 1) := by decide +kernel
theorem dX3_candidates_1 : decode cX3_candidates 1 = .ok (.iload_n 1, 1) := by decide +kernel
theorem dX3_candidates_2 : decode cX3_candidates 2 = .ok (.iload_n 2, 1) := by decide +kernel
theorem dX3_candidates_3 : decode cX3_candidates 3 = .ok (.invokevirtual 81, 3) := by decide +kernel
theorem dX3_candidates_6 : decode cX3_candidates 6 = .ok (.aload_n 0, 1) := by decide +kernel
theorem dX3_candidates_7 : decode cX3_candidates 7 = .ok (.getfield 10, 3) := by decide +kernel
theorem dX3_candidates_10 : decode cX3_candidates 10 = .ok (.iload_n 1, 1) := by decide +kernel
theorem dX3_candidates_11 : decode cX3_candidates 11 = .ok (.iload_n 2, 1) := by decide +kernel
theorem dX3_candidates_12 : decode cX3_candidates 12 = .ok (.invokevirtual 121, 3) := by decide +kernel
theorem dX3_candidates_15 : decode cX3_candidates 15 = .ok (.ireturn, 1) := by decide +kernel
theorem dX3_chosen_0 : decode cX3_chosen 0 = .ok (.aload_n 0, 1) := by decide +kernel
theorem dX3_chosen_1 : decode cX3_chosen 1 = .ok (.iload_n 1, 1) := by decide +kernel
theorem dX3_chosen_2 : decode cX3_chosen 2 = .ok (.iload_n 2, 1) := by decide +kernel
theorem dX3_chosen_3 : decode cX3_chosen 3 = .ok (.invokevirtual 81, 3) := by decide +kernel
theorem dX3_chosen_6 : decode cX3_chosen 6 = .ok (.aload_n 0, 1) := by decide +kernel
theorem dX3_chosen_7 : decode cX3_chosen 7 = .ok (.getfield 10, 3) := by decide +kernel
theorem dX3_chosen_10 : decode cX3_chosen 10 = .ok (.aload_n 0, 1) := by decide +kernel
theorem dX3_chosen_11 : decode cX3_chosen 11 = .ok (.getfield 10, 3) := by decide +kernel
theorem dX3_chosen_14 : decode cX3_chosen 14 = .ok (.iload_n 1, 1) := by decide +kernel
theorem dX3_chosen_15 : decode cX3_chosen 15 = .ok (.iload_n 2, 1) := by decide +kernel
theorem dX3_chosen_16 : decode cX3_chosen 16 = .ok (.invokevirtual 121, 3) := by decide +kernel
theorem dX3_chosen_19 : decode cX3_chosen 19 = .ok (.invokevirtual 124, 3) := by decide +kernel
theorem dX3_chosen_22 : decode cX3_chosen 22 = .ok (.ireturn, 1) := by decide +kernel
theorem dX3_problem_0 : decode cX3_problem 0 = .ok (.aload_n 0, 1) := by decide +kernel
theorem dX3_problem_1 : decode cX3_problem 1 = .ok (.iload_n 1, 1) := by decide +kernel
theorem dX3_problem_2 : decode cX3_problem 2 = .ok (.invokevirtual 69, 3) := by decide +kernel
theorem dX3_problem_5 : decode cX3_problem 5 = .ok (.aload_n 0, 1) := by decide +kernel
theorem dX3_problem_6 : decode cX3_problem 6 = .ok (.iconst 0, 1) := by decide +kernel
theorem dX3_problem_7 : decode cX3_problem 7 = .ok (.putfield 43, 3) := by decide +kernel
theorem dX3_problem_10 : decode cX3_problem 10 = .ok (.aload_n 0, 1) := by decide +kernel
theorem dX3_problem_11 : decode cX3_problem 11 = .ok (.iload_n 1, 1) := by decide +kernel
theorem dX3_problem_12 : decode cX3_problem 12 = .ok (.iconst 0, 1) := by decide +kernel
theorem dX3_problem_13 : decode cX3_problem 13 = .ok (.invokevirtual 128, 3) := by decide +kernel
theorem dX3_problem_16 : decode cX3_problem 16 = .ok (.ireturn, 1) := by decide +kernel
theorem dX3_needs_0 : decode cX3_needs 0 = .ok (.aload_n 0, 1) := by decide +kernel
theorem dX3_needs_1 : decode cX3_needs 1 = .ok (.iload_n 1, 1) := by decide +kernel
theorem dX3_needs_2 : decode cX3_needs 2 = .ok (.invokevirtual 69, 3) := by decide +kernel
theorem dX3_needs_5 : decode cX3_needs 5 = .ok (.aload_n 0, 1) := by decide +kernel
theorem dX3_needs_6 : decode cX3_needs 6 = .ok (.getfield 10, 3) := by decide +kernel
theorem dX3_needs_9 : decode cX3_needs 9 = .ok (.iload_n 1, 1) := by decide +kernel
theorem dX3_needs_10 : decode cX3_needs 10 = .ok (.invokevirtual 131, 3) := by decide +kernel
theorem dX3_needs_13 : decode cX3_needs 13 = .ok (.ireturn, 1) := by decide +kernel
theorem dX3_resolve_0 : decode cX3_resolve 0 = .ok (.aload_n 0, 1) := by decide +kernel
theorem dX3_resolve_1 : decode cX3_resolve 1 = .ok (.iload_n 1, 1) := by decide +kernel
theorem dX3_resolve_2 : decode cX3_resolve 2 = .ok (.iload_n 2, 1) := by decide +kernel
theorem dX3_resolve_3 : decode cX3_resolve 3 = .ok (.invokevirtual 81, 3) := by decide +kernel
theorem dX3_resolve_6 : decode cX3_resolve 6 = .ok (.aload_n 0, 1) := by decide +kernel
theorem dX3_resolve_7 : decode cX3_resolve 7 = .ok (.iload_n 1, 1) := by decide +kernel
theorem dX3_resolve_8 : decode cX3_resolve 8 = .ok (.iload_n 2, 1) := by decide +kernel
theorem dX3_resolve_9 : decode cX3_resolve 9 = .ok (.invokevirtual 134, 3) := by decide +kernel
theorem dX3_resolve_12 : decode cX3_resolve 12 = .ok (.ireturn, 1) := by decide +kernel
theorem dX3_provide_0 : decode cX3_provide 0 = .ok (.aload_n 0, 1) := by decide +kernel
theorem dX3_provide_1 : decode cX3_provide 1 = .ok (.iload_n 1, 1) := by decide +kernel
theorem dX3_provide_2 : decode cX3_provide 2 = .ok (.invokevirtual 137, 3) := by decide +kernel
theorem dX3_provide_5 : decode cX3_provide 5 = .ok (.aload_n 0, 1) := by decide +kernel
theorem dX3_provide_6 : decode cX3_provide 6 = .ok (.getfield 19, 3) := by decide +kernel
theorem dX3_provide_9 : decode cX3_provide 9 = .ok (.getfield 140, 3) := by decide +kernel
theorem dX3_provide_12 : decode cX3_provide 12 = .ok (.iload_n 1, 1) := by decide +kernel
theorem dX3_provide_13 : decode cX3_provide 13 = .ok (.iaload, 1) := by decide +kernel
theorem dX3_provide_14 : decode cX3_provide 14 = .ok (.istore_n 3, 1) := by decide +kernel
theorem dX3_provide_15 : decode cX3_provide 15 = .ok (.aload_n 0, 1) := by decide +kernel
theorem dX3_provide_16 : decode cX3_provide 16 = .ok (.getfield 10, 3) := by decide +kernel
theorem dX3_provide_19 : decode cX3_provide 19 = .ok (.iload_n 3, 1) := by decide +kernel
theorem dX3_provide_20 : decode cX3_provide 20 = .ok (.iload_n 2, 1) := by decide +kernel
theorem dX3_provide_21 : decode cX3_provide 21 = .ok (.invokevirtual 102, 3) := by decide +kernel
theorem dX3_provide_24 : decode cX3_provide 24 = .ok (.ifCond .eq 17, 3) := by decide +kernel
theorem dX3_provide_27 : decode cX3_provide 27 = .ok (.aload_n 0, 1) := by decide +kernel
theorem dX3_provide_28 : decode cX3_provide 28 = .ok (.getfield 10, 3) := by decide +kernel
theorem dX3_provide_31 : decode cX3_provide 31 = .ok (.iload_n 3, 1) := by decide +kernel
theorem dX3_provide_32 : decode cX3_provide 32 = .ok (.iload_n 2, 1) := by decide +kernel
theorem dX3_provide_33 : decode cX3_provide 33 = .ok (.iconst 2, 1) := by decide +kernel
theorem dX3_provide_34 : decode cX3_provide 34 = .ok (.invokevirtual 105, 3) := by decide +kernel
theorem dX3_provide_37 : decode cX3_provide 37 = .ok (.iconst 3, 1) := by decide +kernel
theorem dX3_provide_38 : decode cX3_provide 38 = .ok (.if_icmp .eq 13, 3) := by decide +kernel
theorem dX3_provide_41 : decode cX3_provide 41 = .ok (.new 50, 3) := by decide +kernel
theorem dX3_provide_44 : decode cX3_provide 44 = .ok (.dup, 1) := by decide +kernel
theorem dX3_provide_45 : decode cX3_provide 45 = .ok (.ldc 143, 2) := by decide +kernel
theorem dX3_provide_47 : decode cX3_provide 47 = .ok (.invokespecial 54, 3) := by decide +kernel
theorem dX3_provide_50 : decode cX3_provide 50 = .ok (.athrow, 1) := by decide +kernel
theorem dX3_provide_51 : decode cX3_provide 51 = .ok (.aload_n 0, 1) := by decide +kernel
theorem dX3_provide_52 : decode cX3_provide 52 = .ok (.getfield 19, 3) := by decide +kernel
theorem dX3_provide_55 : decode cX3_provide 55 = .ok (.getfield 145, 3) := by decide +kernel
theorem dX3_provide_58 : decode cX3_provide 58 = .ok (.iload_n 1, 1) := by decide +kernel
theorem dX3_provide_59 : decode cX3_provide 59 = .ok (.baload, 1) := by decide +kernel
theorem dX3_provide_60 : decode cX3_provide 60 = .ok (.ifCond .ne 13, 3) := by decide +kernel
theorem dX3_provide_63 : decode cX3_provide 63 = .ok (.new 60, 3) := by decide +kernel
theorem dX3_provide_66 : decode cX3_provide 66 = .ok (.dup, 1) := by decide +kernel
theorem dX3_provide_67 : decode cX3_provide 67 = .ok (.ldc 149, 2) := by decide +kernel
theorem dX3_provide_69 : decode cX3_provide 69 = .ok (.invokespecial 64, 3) := by decide +kernel
theorem dX3_provide_72 : decode cX3_provide 72 = .ok (.athrow, 1) := by decide +kernel
theorem dX3_provide_73 : decode cX3_provide 73 = .ok (.aload_n 0, 1) := by decide +kernel
theorem dX3_provide_74 : decode cX3_provide 74 = .ok (.aload_n 0, 1) := by decide +kernel
theorem dX3_provide_75 : decode cX3_provide 75 = .ok (.getfield 10, 3) := by decide +kernel
theorem dX3_provide_78 : decode cX3_provide 78 = .ok (.iload_n 3, 1) := by decide +kernel
theorem dX3_provide_79 : decode cX3_provide 79 = .ok (.iload_n 2, 1) := by decide +kernel
theorem dX3_provide_80 : decode cX3_provide 80 = .ok (.iconst 0, 1) := by decide +kernel
theorem dX3_provide_81 : decode cX3_provide 81 = .ok (.invokevirtual 105, 3) := by decide +kernel
theorem dX3_provide_84 : decode cX3_provide 84 = .ok (.aload_n 0, 1) := by decide +kernel
theorem dX3_provide_85 : decode cX3_provide 85 = .ok (.getfield 10, 3) := by decide +kernel
theorem dX3_provide_88 : decode cX3_provide 88 = .ok (.iload_n 3, 1) := by decide +kernel
theorem dX3_provide_89 : decode cX3_provide 89 = .ok (.iload_n 2, 1) := by decide +kernel
theorem dX3_provide_90 : decode cX3_provide 90 = .ok (.iconst 1, 1) := by decide +kernel
theorem dX3_provide_91 : decode cX3_provide 91 = .ok (.invokevirtual 105, 3) := by decide +kernel
theorem dX3_provide_94 : decode cX3_provide 94 = .ok (.invokevirtual 134, 3) := by decide +kernel
theorem dX3_provide_97 : decode cX3_provide 97 = .ok (.ireturn, 1) := by decide +kernel
theorem dX3_start_0 : decode cX3_start 0 = .ok (.aload_n 0, 1) := by decide +kernel
theorem dX3_start_1 : decode cX3_start 1 = .ok (.getfield 19, 3) := by decide +kernel
theorem dX3_start_4 : decode cX3_start 4 = .ok (.getfield 151, 3) := by decide +kernel
theorem dX3_start_7 : decode cX3_start 7 = .ok (.istore_n 1, 1) := by decide +kernel
theorem dX3_start_8 : decode cX3_start 8 = .ok (.iconst 0, 1) := by decide +kernel
theorem dX3_start_9 : decode cX3_start 9 = .ok (.istore_n 2, 1) := by decide +kernel
theorem dX3_start_10 : decode cX3_start 10 = .ok (.iload_n 2, 1) := by decide +kernel
theorem dX3_start_11 : decode cX3_start 11 = .ok (.aload_n 0, 1) := by decide +kernel
theorem dX3_start_12 : decode cX3_start 12 = .ok (.getfield 10, 3) := by decide +kernel
theorem dX3_start_15 : decode cX3_start 15 = .ok (.getfield 57, 3) := by decide +kernel
theorem dX3_start_18 : decode cX3_start 18 = .ok (.if_icmp .ge 49, 3) := by decide +kernel
theorem dX3_start_21 : decode cX3_start 21 = .ok (.aload_n 0, 1) := by decide +kernel
theorem dX3_start_22 : decode cX3_start 22 = .ok (.getfield 10, 3) := by decide +kernel
theorem dX3_start_25 : decode cX3_start 25 = .ok (.iload_n 2, 1) := by decide +kernel
theorem dX3_start_26 : decode cX3_start 26 = .ok (.invokevirtual 152, 3) := by decide +kernel
theorem dX3_start_29 : decode cX3_start 29 = .ok (.ifCond .eq 32, 3) := by decide +kernel
theorem dX3_start_32 : decode cX3_start 32 = .ok (.aload_n 0, 1) := by decide +kernel
theorem dX3_start_33 : decode cX3_start 33 = .ok (.iload_n 2, 1) := by decide +kernel
theorem dX3_start_34 : decode cX3_start 34 = .ok (.iconst 0, 1) := by decide +kernel
theorem dX3_start_35 : decode cX3_start 35 = .ok (.invokevirtual 156, 3) := by decide +kernel
theorem dX3_start_38 : decode cX3_start 38 = .ok (.bipush (-2), 2) := by decide +kernel
theorem dX3_start_40 : decode cX3_start 40 = .ok (.if_icmp .ne 21, 3) := by decide +kernel
theorem dX3_start_43 : decode cX3_start 43 = .ok (.aload_n 0, 1) := by decide +kernel
theorem dX3_start_44 : decode cX3_start 44 = .ok (.getfield 19, 3) := by decide +kernel
theorem dX3_start_47 : decode cX3_start 47 = .ok (.iload_n 1, 1) := by decide +kernel
theorem dX3_start_48 : decode cX3_start 48 = .ok (.invokevirtual 159, 3) := by decide +kernel
theorem dX3_start_51 : decode cX3_start 51 = .ok (.new 60, 3) := by decide +kernel
theorem dX3_start_54 : decode cX3_start 54 = .ok (.dup, 1) := by decide +kernel
theorem dX3_start_55 : decode cX3_start 55 = .ok (.ldc 162, 2) := by decide +kernel
theorem dX3_start_57 : decode cX3_start 57 = .ok (.invokespecial 64, 3) := by decide +kernel
theorem dX3_start_60 : decode cX3_start 60 = .ok (.athrow, 1) := by decide +kernel
theorem dX3_start_61 : decode cX3_start 61 = .ok (.iinc 2 1, 3) := by decide +kernel
theorem dX3_start_64 : decode cX3_start 64 = .ok (.goto (-54), 3) := by decide +kernel
theorem dX3_start_67 : decode cX3_start 67 = .ok (.aload_n 0, 1) := by decide +kernel
theorem dX3_start_68 : decode cX3_start 68 = .ok (.getfield 19, 3) := by decide +kernel
theorem dX3_start_71 : decode cX3_start 71 = .ok (.getfield 151, 3) := by decide +kernel
theorem dX3_start_74 : decode cX3_start 74 = .ok (.iload_n 1, 1) := by decide +kernel
theorem dX3_start_75 : decode cX3_start 75 = .ok (.isub, 1) := by decide +kernel
theorem dX3_start_76 : decode cX3_start 76 = .ok (.ireturn, 1) := by decide +kernel
theorem dX3_begin_0 : decode cX3_begin 0 = .ok (.aload_n 0, 1) := by decide +kernel
theorem dX3_begin_1 : decode cX3_begin 1 = .ok (.getfield 30, 3) := by decide +kernel
theorem dX3_begin_4 : decode cX3_begin 4 = .ok (.iconst 5, 1) := by decide +kernel
theorem dX3_begin_5 : decode cX3_begin 5 = .ok (.if_icmp .lt 13, 3) := by decide +kernel
theorem dX3_begin_8 : decode cX3_begin 8 = .ok (.new 60, 3) := by decide +kernel
theorem dX3_begin_11 : decode cX3_begin 11 = .ok (.dup, 1) := by decide +kernel
theorem dX3_begin_12 : decode cX3_begin 12 = .ok (.ldc 164, 2) := by decide +kernel
theorem dX3_begin_14 : decode cX3_begin 14 = .ok (.invokespecial 64, 3) := by decide +kernel
theorem dX3_begin_17 : decode cX3_begin 17 = .ok (.athrow, 1) := by decide +kernel
theorem dX3_begin_18 : decode cX3_begin 18 = .ok (.aload_n 0, 1) := by decide +kernel
theorem dX3_begin_19 : decode cX3_begin 19 = .ok (.dup, 1) := by decide +kernel
theorem dX3_begin_20 : decode cX3_begin 20 = .ok (.getfield 30, 3) := by decide +kernel
theorem dX3_begin_23 : decode cX3_begin 23 = .ok (.iconst 1, 1) := by decide +kernel
theorem dX3_begin_24 : decode cX3_begin 24 = .ok (.iadd, 1) := by decide +kernel
theorem dX3_begin_25 : decode cX3_begin 25 = .ok (.putfield 30, 3) := by decide +kernel
theorem dX3_begin_28 : decode cX3_begin 28 = .ok (.aload_n 0, 1) := by decide +kernel
theorem dX3_begin_29 : decode cX3_begin 29 = .ok (.getfield 30, 3) := by decide +kernel
theorem dX3_begin_32 : decode cX3_begin 32 = .ok (.ireturn, 1) := by decide +kernel
theorem dX3_end_0 : decode cX3_end 0 = .ok (.aload_n 0, 1) := by decide +kernel
theorem dX3_end_1 : decode cX3_end 1 = .ok (.getfield 30, 3) := by decide +kernel
theorem dX3_end_4 : decode cX3_end 4 = .ok (.ifCond .ne 13, 3) := by decide +kernel
theorem dX3_end_7 : decode cX3_end 7 = .ok (.new 60, 3) := by decide +kernel
theorem dX3_end_10 : decode cX3_end 10 = .ok (.dup, 1) := by decide +kernel
theorem dX3_end_11 : decode cX3_end 11 = .ok (.ldc 166, 2) := by decide +kernel
theorem dX3_end_13 : decode cX3_end 13 = .ok (.invokespecial 64, 3) := by decide +kernel
theorem dX3_end_16 : decode cX3_end 16 = .ok (.athrow, 1) := by decide +kernel
theorem dX3_end_17 : decode cX3_end 17 = .ok (.aload_n 0, 1) := by decide +kernel
theorem dX3_end_18 : decode cX3_end 18 = .ok (.invokevirtual 168, 3) := by decide +kernel
theorem dX3_end_21 : decode cX3_end 21 = .ok (.ireturn, 1) := by decide +kernel
theorem dX3_close_0 : decode cX3_close 0 = .ok (.iconst 0, 1) := by decide +kernel
theorem dX3_close_1 : decode cX3_close 1 = .ok (.istore_n 1, 1) := by decide +kernel
theorem dX3_close_2 : decode cX3_close 2 = .ok (.aload_n 0, 1) := by decide +kernel
theorem dX3_close_3 : decode cX3_close 3 = .ok (.getfield 30, 3) := by decide +kernel
theorem dX3_close_6 : decode cX3_close 6 = .ok (.istore_n 2, 1) := by decide +kernel
theorem dX3_close_7 : decode cX3_close 7 = .ok (.iload_n 2, 1) := by decide +kernel
theorem dX3_close_8 : decode cX3_close 8 = .ok (.ifCond .le 16, 3) := by decide +kernel
theorem dX3_close_11 : decode cX3_close 11 = .ok (.iload_n 1, 1) := by decide +kernel
theorem dX3_close_12 : decode cX3_close 12 = .ok (.aload_n 0, 1) := by decide +kernel
theorem dX3_close_13 : decode cX3_close 13 = .ok (.invokevirtual 168, 3) := by decide +kernel
theorem dX3_close_16 : decode cX3_close 16 = .ok (.iadd, 1) := by decide +kernel
theorem dX3_close_17 : decode cX3_close 17 = .ok (.istore_n 1, 1) := by decide +kernel
theorem dX3_close_18 : decode cX3_close 18 = .ok (.iinc 2 (-1), 3) := by decide +kernel
theorem dX3_close_21 : decode cX3_close 21 = .ok (.goto (-14), 3) := by decide +kernel
theorem dX3_close_24 : decode cX3_close 24 = .ok (.iload_n 1, 1) := by decide +kernel
theorem dX3_close_25 : decode cX3_close 25 = .ok (.aload_n 0, 1) := by decide +kernel
theorem dX3_close_26 : decode cX3_close 26 = .ok (.getfield 19, 3) := by decide +kernel
theorem dX3_close_29 : decode cX3_close 29 = .ok (.iconst 0, 1) := by decide +kernel
theorem dX3_close_30 : decode cX3_close 30 = .ok (.invokevirtual 172, 3) := by decide +kernel
theorem dX3_close_33 : decode cX3_close 33 = .ok (.iadd, 1) := by decide +kernel
theorem dX3_close_34 : decode cX3_close 34 = .ok (.ireturn, 1) := by decide +kernel
theorem dX3_instances_0 : decode cX3_instances 0 = .ok (.aload_n 0, 1) := by decide +kernel
theorem dX3_instances_1 : decode cX3_instances 1 = .ok (.getfield 19, 3) := by decide +kernel
theorem dX3_instances_4 : decode cX3_instances 4 = .ok (.getfield 151, 3) := by decide +kernel
theorem dX3_instances_7 : decode cX3_instances 7 = .ok (.ireturn, 1) := by decide +kernel
theorem dX3_componentOf_0 : decode cX3_componentOf 0 = .ok (.aload_n 0, 1) := by decide +kernel
theorem dX3_componentOf_1 : decode cX3_componentOf 1 = .ok (.iload_n 1, 1) := by decide +kernel
theorem dX3_componentOf_2 : decode cX3_componentOf 2 = .ok (.invokevirtual 137, 3) := by decide +kernel
theorem dX3_componentOf_5 : decode cX3_componentOf 5 = .ok (.aload_n 0, 1) := by decide +kernel
theorem dX3_componentOf_6 : decode cX3_componentOf 6 = .ok (.getfield 19, 3) := by decide +kernel
theorem dX3_componentOf_9 : decode cX3_componentOf 9 = .ok (.getfield 140, 3) := by decide +kernel
theorem dX3_componentOf_12 : decode cX3_componentOf 12 = .ok (.iload_n 1, 1) := by decide +kernel
theorem dX3_componentOf_13 : decode cX3_componentOf 13 = .ok (.iaload, 1) := by decide +kernel
theorem dX3_componentOf_14 : decode cX3_componentOf 14 = .ok (.ireturn, 1) := by decide +kernel
theorem dX3_isAlive_0 : decode cX3_isAlive 0 = .ok (.aload_n 0, 1) := by decide +kernel
theorem dX3_isAlive_1 : decode cX3_isAlive 1 = .ok (.iload_n 1, 1) := by decide +kernel
theorem dX3_isAlive_2 : decode cX3_isAlive 2 = .ok (.invokevirtual 137, 3) := by decide +kernel
theorem dX3_isAlive_5 : decode cX3_isAlive 5 = .ok (.aload_n 0, 1) := by decide +kernel
theorem dX3_isAlive_6 : decode cX3_isAlive 6 = .ok (.getfield 19, 3) := by decide +kernel
theorem dX3_isAlive_9 : decode cX3_isAlive 9 = .ok (.getfield 145, 3) := by decide +kernel
theorem dX3_isAlive_12 : decode cX3_isAlive 12 = .ok (.iload_n 1, 1) := by decide +kernel
theorem dX3_isAlive_13 : decode cX3_isAlive 13 = .ok (.baload, 1) := by decide +kernel
theorem dX3_isAlive_14 : decode cX3_isAlive 14 = .ok (.ireturn, 1) := by decide +kernel
theorem dX3_injected_0 : decode cX3_injected 0 = .ok (.aload_n 0, 1) := by decide +kernel
theorem dX3_injected_1 : decode cX3_injected 1 = .ok (.iload_n 1, 1) := by decide +kernel
theorem dX3_injected_2 : decode cX3_injected 2 = .ok (.invokevirtual 137, 3) := by decide +kernel
theorem dX3_injected_5 : decode cX3_injected 5 = .ok (.aload_n 0, 1) := by decide +kernel
theorem dX3_injected_6 : decode cX3_injected 6 = .ok (.getfield 19, 3) := by decide +kernel
theorem dX3_injected_9 : decode cX3_injected 9 = .ok (.iload_n 1, 1) := by decide +kernel
theorem dX3_injected_10 : decode cX3_injected 10 = .ok (.iload_n 2, 1) := by decide +kernel
theorem dX3_injected_11 : decode cX3_injected 11 = .ok (.invokevirtual 175, 3) := by decide +kernel
theorem dX3_injected_14 : decode cX3_injected 14 = .ok (.ifCond .ne 13, 3) := by decide +kernel
theorem dX3_injected_17 : decode cX3_injected 17 = .ok (.new 50, 3) := by decide +kernel
theorem dX3_injected_20 : decode cX3_injected 20 = .ok (.dup, 1) := by decide +kernel
theorem dX3_injected_21 : decode cX3_injected 21 = .ok (.ldc 178, 2) := by decide +kernel
theorem dX3_injected_23 : decode cX3_injected 23 = .ok (.invokespecial 54, 3) := by decide +kernel
theorem dX3_injected_26 : decode cX3_injected 26 = .ok (.athrow, 1) := by decide +kernel
theorem dX3_injected_27 : decode cX3_injected 27 = .ok (.aload_n 0, 1) := by decide +kernel
theorem dX3_injected_28 : decode cX3_injected 28 = .ok (.getfield 19, 3) := by decide +kernel
theorem dX3_injected_31 : decode cX3_injected 31 = .ok (.getfield 180, 3) := by decide +kernel
theorem dX3_injected_34 : decode cX3_injected 34 = .ok (.iload_n 1, 1) := by decide +kernel
theorem dX3_injected_35 : decode cX3_injected 35 = .ok (.bipush 6, 2) := by decide +kernel
theorem dX3_injected_37 : decode cX3_injected 37 = .ok (.imul, 1) := by decide +kernel
theorem dX3_injected_38 : decode cX3_injected 38 = .ok (.iload_n 2, 1) := by decide +kernel
theorem dX3_injected_39 : decode cX3_injected 39 = .ok (.iadd, 1) := by decide +kernel
theorem dX3_injected_40 : decode cX3_injected 40 = .ok (.iaload, 1) := by decide +kernel
theorem dX3_injected_41 : decode cX3_injected 41 = .ok (.ireturn, 1) := by decide +kernel
theorem dX3_event_0 : decode cX3_event 0 = .ok (.iload_n 1, 1) := by decide +kernel
theorem dX3_event_1 : decode cX3_event 1 = .ok (.iconst (-1), 1) := by decide +kernel
theorem dX3_event_2 : decode cX3_event 2 = .ok (.if_icmp .ne 11, 3) := by decide +kernel
theorem dX3_event_5 : decode cX3_event 5 = .ok (.aload_n 0, 1) := by decide +kernel
theorem dX3_event_6 : decode cX3_event 6 = .ok (.getfield 19, 3) := by decide +kernel
theorem dX3_event_9 : decode cX3_event 9 = .ok (.getfield 183, 3) := by decide +kernel
theorem dX3_event_12 : decode cX3_event 12 = .ok (.ireturn, 1) := by decide +kernel
theorem dX3_event_13 : decode cX3_event 13 = .ok (.iload_n 1, 1) := by decide +kernel
theorem dX3_event_14 : decode cX3_event 14 = .ok (.ifCond .lt 26, 3) := by decide +kernel
theorem dX3_event_17 : decode cX3_event 17 = .ok (.iload_n 1, 1) := by decide +kernel
theorem dX3_event_18 : decode cX3_event 18 = .ok (.aload_n 0, 1) := by decide +kernel
theorem dX3_event_19 : decode cX3_event 19 = .ok (.getfield 19, 3) := by decide +kernel
theorem dX3_event_22 : decode cX3_event 22 = .ok (.getfield 183, 3) := by decide +kernel
theorem dX3_event_25 : decode cX3_event 25 = .ok (.if_icmp .ge 15, 3) := by decide +kernel
theorem dX3_event_28 : decode cX3_event 28 = .ok (.aload_n 0, 1) := by decide +kernel
theorem dX3_event_29 : decode cX3_event 29 = .ok (.getfield 19, 3) := by decide +kernel
theorem dX3_event_32 : decode cX3_event 32 = .ok (.getfield 186, 3) := by decide +kernel
theorem dX3_event_35 : decode cX3_event 35 = .ok (.iload_n 1, 1) := by decide +kernel
theorem dX3_event_36 : decode cX3_event 36 = .ok (.iaload, 1) := by decide +kernel
theorem dX3_event_37 : decode cX3_event 37 = .ok (.goto 4, 3) := by decide +kernel
theorem dX3_event_40 : decode cX3_event 40 = .ok (.iconst (-1), 1) := by decide +kernel
theorem dX3_event_41 : decode cX3_event 41 = .ok (.ireturn, 1) := by decide +kernel
theorem dX3_failureKind_0 : decode cX3_failureKind 0 = .ok (.aload_n 0, 1) := by decide +kernel
theorem dX3_failureKind_1 : decode cX3_failureKind 1 = .ok (.getfield 26, 3) := by decide +kernel
theorem dX3_failureKind_4 : decode cX3_failureKind 4 = .ok (.getfield 189, 3) := by decide +kernel
theorem dX3_failureKind_7 : decode cX3_failureKind 7 = .ok (.ireturn, 1) := by decide +kernel
theorem dX3_failureDetail_0 : decode cX3_failureDetail 0 = .ok (.aload_n 0, 1) := by decide +kernel
theorem dX3_failureDetail_1 : decode cX3_failureDetail 1 = .ok (.getfield 26, 3) := by decide +kernel
theorem dX3_failureDetail_4 : decode cX3_failureDetail 4 = .ok (.getfield 192, 3) := by decide +kernel
theorem dX3_failureDetail_7 : decode cX3_failureDetail 7 = .ok (.ireturn, 1) := by decide +kernel
theorem dX3_failureChain_0 : decode cX3_failureChain 0 = .ok (.iload_n 1, 1) := by decide +kernel
theorem dX3_failureChain_1 : decode cX3_failureChain 1 = .ok (.iconst (-1), 1) := by decide +kernel
theorem dX3_failureChain_2 : decode cX3_failureChain 2 = .ok (.if_icmp .ne 11, 3) := by decide +kernel
theorem dX3_failureChain_5 : decode cX3_failureChain 5 = .ok (.aload_n 0, 1) := by decide +kernel
theorem dX3_failureChain_6 : decode cX3_failureChain 6 = .ok (.getfield 26, 3) := by decide +kernel
theorem dX3_failureChain_9 : decode cX3_failureChain 9 = .ok (.getfield 195, 3) := by decide +kernel
theorem dX3_failureChain_12 : decode cX3_failureChain 12 = .ok (.ireturn, 1) := by decide +kernel
theorem dX3_failureChain_13 : decode cX3_failureChain 13 = .ok (.iload_n 1, 1) := by decide +kernel
theorem dX3_failureChain_14 : decode cX3_failureChain 14 = .ok (.ifCond .lt 26, 3) := by decide +kernel
theorem dX3_failureChain_17 : decode cX3_failureChain 17 = .ok (.iload_n 1, 1) := by decide +kernel
theorem dX3_failureChain_18 : decode cX3_failureChain 18 = .ok (.aload_n 0, 1) := by decide +kernel
theorem dX3_failureChain_19 : decode cX3_failureChain 19 = .ok (.getfield 26, 3) := by decide +kernel
theorem dX3_failureChain_22 : decode cX3_failureChain 22 = .ok (.getfield 195, 3) := by decide +kernel
theorem dX3_failureChain_25 : decode cX3_failureChain 25 = .ok (.if_icmp .ge 15, 3) := by decide +kernel
theorem dX3_failureChain_28 : decode cX3_failureChain 28 = .ok (.aload_n 0, 1) := by decide +kernel
theorem dX3_failureChain_29 : decode cX3_failureChain 29 = .ok (.getfield 26, 3) := by decide +kernel
theorem dX3_failureChain_32 : decode cX3_failureChain 32 = .ok (.getfield 198, 3) := by decide +kernel
theorem dX3_failureChain_35 : decode cX3_failureChain 35 = .ok (.iload_n 1, 1) := by decide +kernel
theorem dX3_failureChain_36 : decode cX3_failureChain 36 = .ok (.iaload, 1) := by decide +kernel
theorem dX3_failureChain_37 : decode cX3_failureChain 37 = .ok (.goto 4, 3) := by decide +kernel
theorem dX3_failureChain_40 : decode cX3_failureChain 40 = .ok (.iconst (-1), 1) := by decide +kernel
theorem dX3_failureChain_41 : decode cX3_failureChain 41 = .ok (.ireturn, 1) := by decide +kernel
theorem dX3_isBetween_0 : decode cX3_isBetween 0 = .ok (.iload_n 0, 1) := by decide +kernel
theorem dX3_isBetween_1 : decode cX3_isBetween 1 = .ok (.iload_n 1, 1) := by decide +kernel
theorem dX3_isBetween_2 : decode cX3_isBetween 2 = .ok (.if_icmp .lt 12, 3) := by decide +kernel
theorem dX3_isBetween_5 : decode cX3_isBetween 5 = .ok (.iload_n 0, 1) := by decide +kernel
theorem dX3_isBetween_6 : decode cX3_isBetween 6 = .ok (.iload_n 2, 1) := by decide +kernel
theorem dX3_isBetween_7 : decode cX3_isBetween 7 = .ok (.if_icmp .gt 7, 3) := by decide +kernel
theorem dX3_isBetween_10 : decode cX3_isBetween 10 = .ok (.iconst 1, 1) := by decide +kernel
theorem dX3_isBetween_11 : decode cX3_isBetween 11 = .ok (.goto 4, 3) := by decide +kernel
theorem dX3_isBetween_14 : decode cX3_isBetween 14 = .ok (.iconst 0, 1) := by decide +kernel
theorem dX3_isBetween_15 : decode cX3_isBetween 15 = .ok (.ireturn, 1) := by decide +kernel
theorem dX3_isPropertyValue_0 : decode cX3_isPropertyValue 0 = .ok (.iload_n 1, 1) := by decide +kernel
theorem dX3_isPropertyValue_1 : decode cX3_isPropertyValue 1 = .ok (.getstatic 199, 3) := by decide +kernel
theorem dX3_isPropertyValue_4 : decode cX3_isPropertyValue 4 = .ok (.iload_n 0, 1) := by decide +kernel
theorem dX3_isPropertyValue_5 : decode cX3_isPropertyValue 5 = .ok (.iaload, 1) := by decide +kernel
theorem dX3_isPropertyValue_6 : decode cX3_isPropertyValue 6 = .ok (.getstatic 202, 3) := by decide +kernel
theorem dX3_isPropertyValue_9 : decode cX3_isPropertyValue 9 = .ok (.iload_n 0, 1) := by decide +kernel
theorem dX3_isPropertyValue_10 : decode cX3_isPropertyValue 10 = .ok (.iaload, 1) := by decide +kernel
theorem dX3_isPropertyValue_11 : decode cX3_isPropertyValue 11 = .ok (.invokestatic 85, 3) := by decide +kernel
theorem dX3_isPropertyValue_14 : decode cX3_isPropertyValue 14 = .ok (.ireturn, 1) := by decide +kernel
theorem dX3_requireComponent_0 : decode cX3_requireComponent 0 = .ok (.iload_n 1, 1) := by decide +kernel
theorem dX3_requireComponent_1 : decode cX3_requireComponent 1 = .ok (.ifCond .lt 14, 3) := by decide +kernel
theorem dX3_requireComponent_4 : decode cX3_requireComponent 4 = .ok (.iload_n 1, 1) := by decide +kernel
theorem dX3_requireComponent_5 : decode cX3_requireComponent 5 = .ok (.aload_n 0, 1) := by decide +kernel
theorem dX3_requireComponent_6 : decode cX3_requireComponent 6 = .ok (.getfield 10, 3) := by decide +kernel
theorem dX3_requireComponent_9 : decode cX3_requireComponent 9 = .ok (.getfield 57, 3) := by decide +kernel
theorem dX3_requireComponent_12 : decode cX3_requireComponent 12 = .ok (.if_icmp .lt 13, 3) := by decide +kernel
theorem dX3_requireComponent_15 : decode cX3_requireComponent 15 = .ok (.new 205, 3) := by decide +kernel
theorem dX3_requireComponent_18 : decode cX3_requireComponent 18 = .ok (.dup, 1) := by decide +kernel
theorem dX3_requireComponent_19 : decode cX3_requireComponent 19 = .ok (.ldc 207, 2) := by decide +kernel
theorem dX3_requireComponent_21 : decode cX3_requireComponent 21 = .ok (.invokespecial 209, 3) := by decide +kernel
theorem dX3_requireComponent_24 : decode cX3_requireComponent 24 = .ok (.athrow, 1) := by decide +kernel
theorem dX3_requireComponent_25 : decode cX3_requireComponent 25 = .ok (.return_, 1) := by decide +kernel
theorem dX3_requireInstance_0 : decode cX3_requireInstance 0 = .ok (.iload_n 1, 1) := by decide +kernel
theorem dX3_requireInstance_1 : decode cX3_requireInstance 1 = .ok (.ifCond .lt 14, 3) := by decide +kernel
theorem dX3_requireInstance_4 : decode cX3_requireInstance 4 = .ok (.iload_n 1, 1) := by decide +kernel
theorem dX3_requireInstance_5 : decode cX3_requireInstance 5 = .ok (.aload_n 0, 1) := by decide +kernel
theorem dX3_requireInstance_6 : decode cX3_requireInstance 6 = .ok (.getfield 19, 3) := by decide +kernel
theorem dX3_requireInstance_9 : decode cX3_requireInstance 9 = .ok (.getfield 151, 3) := by decide +kernel
theorem dX3_requireInstance_12 : decode cX3_requireInstance 12 = .ok (.if_icmp .lt 13, 3) := by decide +kernel
theorem dX3_requireInstance_15 : decode cX3_requireInstance 15 = .ok (.new 205, 3) := by decide +kernel
theorem dX3_requireInstance_18 : decode cX3_requireInstance 18 = .ok (.dup, 1) := by decide +kernel
theorem dX3_requireInstance_19 : decode cX3_requireInstance 19 = .ok (.ldc 210, 2) := by decide +kernel
theorem dX3_requireInstance_21 : decode cX3_requireInstance 21 = .ok (.invokespecial 209, 3) := by decide +kernel
theorem dX3_requireInstance_24 : decode cX3_requireInstance 24 = .ok (.athrow, 1) := by decide +kernel
theorem dX3_requireInstance_25 : decode cX3_requireInstance 25 = .ok (.return_, 1) := by decide +kernel
theorem dX3_requireProperty_0 : decode cX3_requireProperty 0 = .ok (.iload_n 1, 1) := by decide +kernel
theorem dX3_requireProperty_1 : decode cX3_requireProperty 1 = .ok (.iconst 0, 1) := by decide +kernel
theorem dX3_requireProperty_2 : decode cX3_requireProperty 2 = .ok (.bipush 6, 2) := by decide +kernel
theorem dX3_requireProperty_4 : decode cX3_requireProperty 4 = .ok (.invokestatic 85, 3) := by decide +kernel
theorem dX3_requireProperty_7 : decode cX3_requireProperty 7 = .ok (.ifCond .ne 13, 3) := by decide +kernel
theorem dX3_requireProperty_10 : decode cX3_requireProperty 10 = .ok (.new 50, 3) := by decide +kernel
theorem dX3_requireProperty_13 : decode cX3_requireProperty 13 = .ok (.dup, 1) := by decide +kernel
theorem dX3_requireProperty_14 : decode cX3_requireProperty 14 = .ok (.ldc 212, 2) := by decide +kernel
theorem dX3_requireProperty_16 : decode cX3_requireProperty 16 = .ok (.invokespecial 54, 3) := by decide +kernel
theorem dX3_requireProperty_19 : decode cX3_requireProperty 19 = .ok (.athrow, 1) := by decide +kernel
theorem dX3_requireProperty_20 : decode cX3_requireProperty 20 = .ok (.return_, 1) := by decide +kernel
theorem dX3_requireTypeAndQualifier_0 : decode cX3_requireTypeAndQualifier 0 = .ok (.iload_n 1, 1) := by decide +kernel
theorem dX3_requireTypeAndQualifier_1 : decode cX3_requireTypeAndQualifier 1 = .ok (.iconst 0, 1) := by decide +kernel
theorem dX3_requireTypeAndQualifier_2 : decode cX3_requireTypeAndQualifier 2 = .ok (.bipush 15, 2) := by decide +kernel
theorem dX3_requireTypeAndQualifier_4 : decode cX3_requireTypeAndQualifier 4 = .ok (.invokestatic 85, 3) := by decide +kernel
theorem dX3_requireTypeAndQualifier_7 : decode cX3_requireTypeAndQualifier 7 = .ok (.ifCond .eq 13, 3) := by decide +kernel
theorem dX3_requireTypeAndQualifier_10 : decode cX3_requireTypeAndQualifier 10 = .ok (.iload_n 2, 1) := by decide +kernel
theorem dX3_requireTypeAndQualifier_11 : decode cX3_requireTypeAndQualifier 11 = .ok (.iconst (-1), 1) := by decide +kernel
theorem dX3_requireTypeAndQualifier_12 : decode cX3_requireTypeAndQualifier 12 = .ok (.bipush 9, 2) := by decide +kernel
theorem dX3_requireTypeAndQualifier_14 : decode cX3_requireTypeAndQualifier 14 = .ok (.invokestatic 85, 3) := by decide +kernel
theorem dX3_requireTypeAndQualifier_17 : decode cX3_requireTypeAndQualifier 17 = .ok (.ifCond .ne 13, 3) := by decide +kernel
theorem dX3_requireTypeAndQualifier_20 : decode cX3_requireTypeAndQualifier 20 = .ok (.new 50, 3) := by decide +kernel
theorem dX3_requireTypeAndQualifier_23 : decode cX3_requireTypeAndQualifier 23 = .ok (.dup, 1) := by decide +kernel
theorem dX3_requireTypeAndQualifier_24 : decode cX3_requireTypeAndQualifier 24 = .ok (.ldc 214, 2) := by decide +kernel
theorem dX3_requireTypeAndQualifier_26 : decode cX3_requireTypeAndQualifier 26 = .ok (.invokespecial 54, 3) := by decide +kernel
theorem dX3_requireTypeAndQualifier_29 : decode cX3_requireTypeAndQualifier 29 = .ok (.athrow, 1) := by decide +kernel
theorem dX3_requireTypeAndQualifier_30 : decode cX3_requireTypeAndQualifier 30 = .ok (.return_, 1) := by decide +kernel
theorem dX3_tryConstruction_0 : decode cX3_tryConstruction 0 = .ok (.iconst 1, 1) := by decide +kernel
theorem dX3_tryConstruction_1 : decode cX3_tryConstruction 1 = .ok (.iload_n 1, 1) := by decide +kernel
theorem dX3_tryConstruction_2 : decode cX3_tryConstruction 2 = .ok (.ishl, 1) := by decide +kernel
theorem dX3_tryConstruction_3 : decode cX3_tryConstruction 3 = .ok (.istore_n 3, 1) := by decide +kernel
theorem dX3_tryConstruction_4 : decode cX3_tryConstruction 4 = .ok (.iload_n 2, 1) := by decide +kernel
theorem dX3_tryConstruction_5 : decode cX3_tryConstruction 5 = .ok (.iload_n 3, 1) := by decide +kernel
theorem dX3_tryConstruction_6 : decode cX3_tryConstruction 6 = .ok (.iand, 1) := by decide +kernel
theorem dX3_tryConstruction_7 : decode cX3_tryConstruction 7 = .ok (.ifCond .eq 5, 3) := by decide +kernel
theorem dX3_tryConstruction_10 : decode cX3_tryConstruction 10 = .ok (.iconst 3, 1) := by decide +kernel
theorem dX3_tryConstruction_11 : decode cX3_tryConstruction 11 = .ok (.ireturn, 1) := by decide +kernel
theorem dX3_tryConstruction_12 : decode cX3_tryConstruction 12 = .ok (.aload_n 0, 1) := by decide +kernel
theorem dX3_tryConstruction_13 : decode cX3_tryConstruction 13 = .ok (.getfield 43, 3) := by decide +kernel
theorem dX3_tryConstruction_16 : decode cX3_tryConstruction 16 = .ok (.iload_n 3, 1) := by decide +kernel
theorem dX3_tryConstruction_17 : decode cX3_tryConstruction 17 = .ok (.iand, 1) := by decide +kernel
theorem dX3_tryConstruction_18 : decode cX3_tryConstruction 18 = .ok (.ifCond .eq 5, 3) := by decide +kernel
theorem dX3_tryConstruction_21 : decode cX3_tryConstruction 21 = .ok (.iconst 0, 1) := by decide +kernel
theorem dX3_tryConstruction_22 : decode cX3_tryConstruction 22 = .ok (.ireturn, 1) := by decide +kernel
theorem dX3_tryConstruction_23 : decode cX3_tryConstruction 23 = .ok (.iconst 0, 1) := by decide +kernel
theorem dX3_tryConstruction_24 : decode cX3_tryConstruction 24 = .ok (.istore 4, 2) := by decide +kernel
theorem dX3_tryConstruction_26 : decode cX3_tryConstruction 26 = .ok (.iload 4, 2) := by decide +kernel
theorem dX3_tryConstruction_28 : decode cX3_tryConstruction 28 = .ok (.aload_n 0, 1) := by decide +kernel
theorem dX3_tryConstruction_29 : decode cX3_tryConstruction 29 = .ok (.getfield 10, 3) := by decide +kernel
theorem dX3_tryConstruction_32 : decode cX3_tryConstruction 32 = .ok (.getfield 91, 3) := by decide +kernel
theorem dX3_tryConstruction_35 : decode cX3_tryConstruction 35 = .ok (.iload_n 1, 1) := by decide +kernel
theorem dX3_tryConstruction_36 : decode cX3_tryConstruction 36 = .ok (.iaload, 1) := by decide +kernel
theorem dX3_tryConstruction_37 : decode cX3_tryConstruction 37 = .ok (.if_icmp .ge 29, 3) := by decide +kernel
theorem dX3_tryConstruction_40 : decode cX3_tryConstruction 40 = .ok (.aload_n 0, 1) := by decide +kernel
theorem dX3_tryConstruction_41 : decode cX3_tryConstruction 41 = .ok (.iload_n 1, 1) := by decide +kernel
theorem dX3_tryConstruction_42 : decode cX3_tryConstruction 42 = .ok (.iload 4, 2) := by decide +kernel
theorem dX3_tryConstruction_44 : decode cX3_tryConstruction 44 = .ok (.iload_n 2, 1) := by decide +kernel
theorem dX3_tryConstruction_45 : decode cX3_tryConstruction 45 = .ok (.iload_n 3, 1) := by decide +kernel
theorem dX3_tryConstruction_46 : decode cX3_tryConstruction 46 = .ok (.ior, 1) := by decide +kernel
theorem dX3_tryConstruction_47 : decode cX3_tryConstruction 47 = .ok (.invokevirtual 216, 3) := by decide +kernel
theorem dX3_tryConstruction_50 : decode cX3_tryConstruction 50 = .ok (.istore 5, 2) := by decide +kernel
theorem dX3_tryConstruction_52 : decode cX3_tryConstruction 52 = .ok (.iload 5, 2) := by decide +kernel
theorem dX3_tryConstruction_54 : decode cX3_tryConstruction 54 = .ok (.ifCond .eq 6, 3) := by decide +kernel
theorem dX3_tryConstruction_57 : decode cX3_tryConstruction 57 = .ok (.iload 5, 2) := by decide +kernel
theorem dX3_tryConstruction_59 : decode cX3_tryConstruction 59 = .ok (.ireturn, 1) := by decide +kernel
theorem dX3_tryConstruction_60 : decode cX3_tryConstruction 60 = .ok (.iinc 4 1, 3) := by decide +kernel
theorem dX3_tryConstruction_63 : decode cX3_tryConstruction 63 = .ok (.goto (-37), 3) := by decide +kernel
theorem dX3_tryConstruction_66 : decode cX3_tryConstruction 66 = .ok (.aload_n 0, 1) := by decide +kernel
theorem dX3_tryConstruction_67 : decode cX3_tryConstruction 67 = .ok (.dup, 1) := by decide +kernel
theorem dX3_tryConstruction_68 : decode cX3_tryConstruction 68 = .ok (.getfield 43, 3) := by decide +kernel
theorem dX3_tryConstruction_71 : decode cX3_tryConstruction 71 = .ok (.iload_n 3, 1) := by decide +kernel
theorem dX3_tryConstruction_72 : decode cX3_tryConstruction 72 = .ok (.ior, 1) := by decide +kernel
theorem dX3_tryConstruction_73 : decode cX3_tryConstruction 73 = .ok (.putfield 43, 3) := by decide +kernel
theorem dX3_tryConstruction_76 : decode cX3_tryConstruction 76 = .ok (.iconst 0, 1) := by decide +kernel
theorem dX3_tryConstruction_77 : decode cX3_tryConstruction 77 = .ok (.ireturn, 1) := by decide +kernel
theorem dX3_tryDependency_0 : decode cX3_tryDependency 0 = .ok (.aload_n 0, 1) := by decide +kernel
theorem dX3_tryDependency_1 : decode cX3_tryDependency 1 = .ok (.getfield 10, 3) := by decide +kernel
theorem dX3_tryDependency_4 : decode cX3_tryDependency 4 = .ok (.iload_n 1, 1) := by decide +kernel
theorem dX3_tryDependency_5 : decode cX3_tryDependency 5 = .ok (.iload_n 2, 1) := by decide +kernel
theorem dX3_tryDependency_6 : decode cX3_tryDependency 6 = .ok (.iconst 2, 1) := by decide +kernel
theorem dX3_tryDependency_7 : decode cX3_tryDependency 7 = .ok (.invokevirtual 105, 3) := by decide +kernel
theorem dX3_tryDependency_10 : decode cX3_tryDependency 10 = .ok (.istore 4, 2) := by decide +kernel
theorem dX3_tryDependency_12 : decode cX3_tryDependency 12 = .ok (.iload 4, 2) := by decide +kernel
theorem dX3_tryDependency_14 : decode cX3_tryDependency 14 = .ok (.iconst 3, 1) := by decide +kernel
theorem dX3_tryDependency_15 : decode cX3_tryDependency 15 = .ok (.if_icmp .ne 5, 3) := by decide +kernel
theorem dX3_tryDependency_18 : decode cX3_tryDependency 18 = .ok (.iconst 0, 1) := by decide +kernel
theorem dX3_tryDependency_19 : decode cX3_tryDependency 19 = .ok (.ireturn, 1) := by decide +kernel
theorem dX3_tryDependency_20 : decode cX3_tryDependency 20 = .ok (.aload_n 0, 1) := by decide +kernel
theorem dX3_tryDependency_21 : decode cX3_tryDependency 21 = .ok (.getfield 10, 3) := by decide +kernel
theorem dX3_tryDependency_24 : decode cX3_tryDependency 24 = .ok (.iload_n 1, 1) := by decide +kernel
theorem dX3_tryDependency_25 : decode cX3_tryDependency 25 = .ok (.iload_n 2, 1) := by decide +kernel
theorem dX3_tryDependency_26 : decode cX3_tryDependency 26 = .ok (.invokevirtual 219, 3) := by decide +kernel
theorem dX3_tryDependency_29 : decode cX3_tryDependency 29 = .ok (.istore 5, 2) := by decide +kernel
theorem dX3_tryDependency_31 : decode cX3_tryDependency 31 = .ok (.iload 4, 2) := by decide +kernel
theorem dX3_tryDependency_33 : decode cX3_tryDependency 33 = .ok (.iconst 2, 1) := by decide +kernel
theorem dX3_tryDependency_34 : decode cX3_tryDependency 34 = .ok (.if_icmp .ne 11, 3) := by decide +kernel
theorem dX3_tryDependency_37 : decode cX3_tryDependency 37 = .ok (.aload_n 0, 1) := by decide +kernel
theorem dX3_tryDependency_38 : decode cX3_tryDependency 38 = .ok (.iload 5, 2) := by decide +kernel
theorem dX3_tryDependency_40 : decode cX3_tryDependency 40 = .ok (.iload_n 3, 1) := by decide +kernel
theorem dX3_tryDependency_41 : decode cX3_tryDependency 41 = .ok (.invokevirtual 222, 3) := by decide +kernel
theorem dX3_tryDependency_44 : decode cX3_tryDependency 44 = .ok (.ireturn, 1) := by decide +kernel
theorem dX3_tryDependency_45 : decode cX3_tryDependency 45 = .ok (.iload 5, 2) := by decide +kernel
theorem dX3_tryDependency_47 : decode cX3_tryDependency 47 = .ok (.ifCond .ne 15, 3) := by decide +kernel
theorem dX3_tryDependency_50 : decode cX3_tryDependency 50 = .ok (.iload 4, 2) := by decide +kernel
theorem dX3_tryDependency_52 : decode cX3_tryDependency 52 = .ok (.iconst 1, 1) := by decide +kernel
theorem dX3_tryDependency_53 : decode cX3_tryDependency 53 = .ok (.if_icmp .ne 7, 3) := by decide +kernel
theorem dX3_tryDependency_56 : decode cX3_tryDependency 56 = .ok (.iconst 0, 1) := by decide +kernel
theorem dX3_tryDependency_57 : decode cX3_tryDependency 57 = .ok (.goto 4, 3) := by decide +kernel
theorem dX3_tryDependency_60 : decode cX3_tryDependency 60 = .ok (.iconst 1, 1) := by decide +kernel
theorem dX3_tryDependency_61 : decode cX3_tryDependency 61 = .ok (.ireturn, 1) := by decide +kernel
theorem dX3_tryDependency_62 : decode cX3_tryDependency 62 = .ok (.aload_n 0, 1) := by decide +kernel
theorem dX3_tryDependency_63 : decode cX3_tryDependency 63 = .ok (.getfield 10, 3) := by decide +kernel
theorem dX3_tryDependency_66 : decode cX3_tryDependency 66 = .ok (.iload 5, 2) := by decide +kernel
theorem dX3_tryDependency_68 : decode cX3_tryDependency 68 = .ok (.invokevirtual 124, 3) := by decide +kernel
theorem dX3_tryDependency_71 : decode cX3_tryDependency 71 = .ok (.istore 6, 2) := by decide +kernel
theorem dX3_tryDependency_73 : decode cX3_tryDependency 73 = .ok (.iload 6, 2) := by decide +kernel
theorem dX3_tryDependency_75 : decode cX3_tryDependency 75 = .ok (.iconst (-1), 1) := by decide +kernel
theorem dX3_tryDependency_76 : decode cX3_tryDependency 76 = .ok (.if_icmp .ne 7, 3) := by decide +kernel
theorem dX3_tryDependency_79 : decode cX3_tryDependency 79 = .ok (.iconst 2, 1) := by decide +kernel
theorem dX3_tryDependency_80 : decode cX3_tryDependency 80 = .ok (.goto 10, 3) := by decide +kernel
theorem dX3_tryDependency_83 : decode cX3_tryDependency 83 = .ok (.aload_n 0, 1) := by decide +kernel
theorem dX3_tryDependency_84 : decode cX3_tryDependency 84 = .ok (.iload 6, 2) := by decide +kernel
theorem dX3_tryDependency_86 : decode cX3_tryDependency 86 = .ok (.iload_n 3, 1) := by decide +kernel
theorem dX3_tryDependency_87 : decode cX3_tryDependency 87 = .ok (.invokevirtual 128, 3) := by decide +kernel
theorem dX3_tryDependency_90 : decode cX3_tryDependency 90 = .ok (.ireturn, 1) := by decide +kernel
theorem dX3_tryEach_0 : decode cX3_tryEach 0 = .ok (.iconst 0, 1) := by decide +kernel
theorem dX3_tryEach_1 : decode cX3_tryEach 1 = .ok (.istore_n 3, 1) := by decide +kernel
theorem dX3_tryEach_2 : decode cX3_tryEach 2 = .ok (.iload_n 3, 1) := by decide +kernel
theorem dX3_tryEach_3 : decode cX3_tryEach 3 = .ok (.aload_n 0, 1) := by decide +kernel
theorem dX3_tryEach_4 : decode cX3_tryEach 4 = .ok (.getfield 10, 3) := by decide +kernel
theorem dX3_tryEach_7 : decode cX3_tryEach 7 = .ok (.getfield 57, 3) := by decide +kernel
theorem dX3_tryEach_10 : decode cX3_tryEach 10 = .ok (.if_icmp .ge 33, 3) := by decide +kernel
theorem dX3_tryEach_13 : decode cX3_tryEach 13 = .ok (.iload_n 1, 1) := by decide +kernel
theorem dX3_tryEach_14 : decode cX3_tryEach 14 = .ok (.iload_n 3, 1) := by decide +kernel
theorem dX3_tryEach_15 : decode cX3_tryEach 15 = .ok (.invokestatic 114, 3) := by decide +kernel
theorem dX3_tryEach_18 : decode cX3_tryEach 18 = .ok (.ifCond .eq 19, 3) := by decide +kernel
theorem dX3_tryEach_21 : decode cX3_tryEach 21 = .ok (.aload_n 0, 1) := by decide +kernel
theorem dX3_tryEach_22 : decode cX3_tryEach 22 = .ok (.iload_n 3, 1) := by decide +kernel
theorem dX3_tryEach_23 : decode cX3_tryEach 23 = .ok (.iload_n 2, 1) := by decide +kernel
theorem dX3_tryEach_24 : decode cX3_tryEach 24 = .ok (.invokevirtual 128, 3) := by decide +kernel
theorem dX3_tryEach_27 : decode cX3_tryEach 27 = .ok (.istore 4, 2) := by decide +kernel
theorem dX3_tryEach_29 : decode cX3_tryEach 29 = .ok (.iload 4, 2) := by decide +kernel
theorem dX3_tryEach_31 : decode cX3_tryEach 31 = .ok (.ifCond .eq 6, 3) := by decide +kernel
theorem dX3_tryEach_34 : decode cX3_tryEach 34 = .ok (.iload 4, 2) := by decide +kernel
theorem dX3_tryEach_36 : decode cX3_tryEach 36 = .ok (.ireturn, 1) := by decide +kernel
theorem dX3_tryEach_37 : decode cX3_tryEach 37 = .ok (.iinc 3 1, 3) := by decide +kernel
theorem dX3_tryEach_40 : decode cX3_tryEach 40 = .ok (.goto (-38), 3) := by decide +kernel
theorem dX3_tryEach_43 : decode cX3_tryEach 43 = .ok (.iconst 0, 1) := by decide +kernel
theorem dX3_tryEach_44 : decode cX3_tryEach 44 = .ok (.ireturn, 1) := by decide +kernel
theorem dX3_requestOrThrow_0 : decode cX3_requestOrThrow 0 = .ok (.aload_n 0, 1) := by decide +kernel
theorem dX3_requestOrThrow_1 : decode cX3_requestOrThrow 1 = .ok (.getfield 19, 3) := by decide +kernel
theorem dX3_requestOrThrow_4 : decode cX3_requestOrThrow 4 = .ok (.getfield 151, 3) := by decide +kernel
theorem dX3_requestOrThrow_7 : decode cX3_requestOrThrow 7 = .ok (.istore_n 3, 1) := by decide +kernel
theorem dX3_requestOrThrow_8 : decode cX3_requestOrThrow 8 = .ok (.aload_n 0, 1) := by decide +kernel
theorem dX3_requestOrThrow_9 : decode cX3_requestOrThrow 9 = .ok (.iload_n 1, 1) := by decide +kernel
theorem dX3_requestOrThrow_10 : decode cX3_requestOrThrow 10 = .ok (.iload_n 2, 1) := by decide +kernel
theorem dX3_requestOrThrow_11 : decode cX3_requestOrThrow 11 = .ok (.iconst 0, 1) := by decide +kernel
theorem dX3_requestOrThrow_12 : decode cX3_requestOrThrow 12 = .ok (.invokevirtual 225, 3) := by decide +kernel
theorem dX3_requestOrThrow_15 : decode cX3_requestOrThrow 15 = .ok (.istore 4, 2) := by decide +kernel
theorem dX3_requestOrThrow_17 : decode cX3_requestOrThrow 17 = .ok (.iload 4, 2) := by decide +kernel
theorem dX3_requestOrThrow_19 : decode cX3_requestOrThrow 19 = .ok (.bipush (-2), 2) := by decide +kernel
theorem dX3_requestOrThrow_21 : decode cX3_requestOrThrow 21 = .ok (.if_icmp .ne 21, 3) := by decide +kernel
theorem dX3_requestOrThrow_24 : decode cX3_requestOrThrow 24 = .ok (.aload_n 0, 1) := by decide +kernel
theorem dX3_requestOrThrow_25 : decode cX3_requestOrThrow 25 = .ok (.getfield 19, 3) := by decide +kernel
theorem dX3_requestOrThrow_28 : decode cX3_requestOrThrow 28 = .ok (.iload_n 3, 1) := by decide +kernel
theorem dX3_requestOrThrow_29 : decode cX3_requestOrThrow 29 = .ok (.invokevirtual 159, 3) := by decide +kernel
theorem dX3_requestOrThrow_32 : decode cX3_requestOrThrow 32 = .ok (.new 60, 3) := by decide +kernel
theorem dX3_requestOrThrow_35 : decode cX3_requestOrThrow 35 = .ok (.dup, 1) := by decide +kernel
theorem dX3_requestOrThrow_36 : decode cX3_requestOrThrow 36 = .ok (.ldc 228, 2) := by decide +kernel
theorem dX3_requestOrThrow_38 : decode cX3_requestOrThrow 38 = .ok (.invokespecial 64, 3) := by decide +kernel
theorem dX3_requestOrThrow_41 : decode cX3_requestOrThrow 41 = .ok (.athrow, 1) := by decide +kernel
theorem dX3_requestOrThrow_42 : decode cX3_requestOrThrow 42 = .ok (.iload 4, 2) := by decide +kernel
theorem dX3_requestOrThrow_44 : decode cX3_requestOrThrow 44 = .ok (.ireturn, 1) := by decide +kernel
theorem dX3_request_0 : decode cX3_request 0 = .ok (.aload_n 0, 1) := by decide +kernel
theorem dX3_request_1 : decode cX3_request 1 = .ok (.getfield 10, 3) := by decide +kernel
theorem dX3_request_4 : decode cX3_request 4 = .ok (.iload_n 1, 1) := by decide +kernel
theorem dX3_request_5 : decode cX3_request 5 = .ok (.iload_n 2, 1) := by decide +kernel
theorem dX3_request_6 : decode cX3_request 6 = .ok (.invokevirtual 121, 3) := by decide +kernel
theorem dX3_request_9 : decode cX3_request 9 = .ok (.istore 4, 2) := by decide +kernel
theorem dX3_request_11 : decode cX3_request 11 = .ok (.iload 4, 2) := by decide +kernel
theorem dX3_request_13 : decode cX3_request 13 = .ok (.ifCond .ne 11, 3) := by decide +kernel
theorem dX3_request_16 : decode cX3_request 16 = .ok (.aload_n 0, 1) := by decide +kernel
theorem dX3_request_17 : decode cX3_request 17 = .ok (.iconst 1, 1) := by decide +kernel
theorem dX3_request_18 : decode cX3_request 18 = .ok (.iload_n 1, 1) := by decide +kernel
theorem dX3_request_19 : decode cX3_request 19 = .ok (.iload_n 3, 1) := by decide +kernel
theorem dX3_request_20 : decode cX3_request 20 = .ok (.invokevirtual 230, 3) := by decide +kernel
theorem dX3_request_23 : decode cX3_request 23 = .ok (.ireturn, 1) := by decide +kernel
theorem dX3_request_24 : decode cX3_request 24 = .ok (.aload_n 0, 1) := by decide +kernel
theorem dX3_request_25 : decode cX3_request 25 = .ok (.getfield 10, 3) := by decide +kernel
theorem dX3_request_28 : decode cX3_request 28 = .ok (.iload 4, 2) := by decide +kernel
theorem dX3_request_30 : decode cX3_request 30 = .ok (.invokevirtual 124, 3) := by decide +kernel
theorem dX3_request_33 : decode cX3_request 33 = .ok (.istore 5, 2) := by decide +kernel
theorem dX3_request_35 : decode cX3_request 35 = .ok (.iload 5, 2) := by decide +kernel
theorem dX3_request_37 : decode cX3_request 37 = .ok (.iconst (-1), 1) := by decide +kernel
theorem dX3_request_38 : decode cX3_request 38 = .ok (.if_icmp .ne 13, 3) := by decide +kernel
theorem dX3_request_41 : decode cX3_request 41 = .ok (.aload_n 0, 1) := by decide +kernel
theorem dX3_request_42 : decode cX3_request 42 = .ok (.iconst 2, 1) := by decide +kernel
theorem dX3_request_43 : decode cX3_request 43 = .ok (.iload_n 1, 1) := by decide +kernel
theorem dX3_request_44 : decode cX3_request 44 = .ok (.iload_n 3, 1) := by decide +kernel
theorem dX3_request_45 : decode cX3_request 45 = .ok (.invokevirtual 230, 3) := by decide +kernel
theorem dX3_request_48 : decode cX3_request 48 = .ok (.goto 10, 3) := by decide +kernel
theorem dX3_request_51 : decode cX3_request 51 = .ok (.aload_n 0, 1) := by decide +kernel
theorem dX3_request_52 : decode cX3_request 52 = .ok (.iload 5, 2) := by decide +kernel
theorem dX3_request_54 : decode cX3_request 54 = .ok (.iload_n 3, 1) := by decide +kernel
theorem dX3_request_55 : decode cX3_request 55 = .ok (.invokevirtual 156, 3) := by decide +kernel
theorem dX3_request_58 : decode cX3_request 58 = .ok (.ireturn, 1) := by decide +kernel
theorem dX3_obtain_0 : decode cX3_obtain 0 = .ok (.aload_n 0, 1) := by decide +kernel
theorem dX3_obtain_1 : decode cX3_obtain 1 = .ok (.getfield 10, 3) := by decide +kernel
theorem dX3_obtain_4 : decode cX3_obtain 4 = .ok (.getfield 78, 3) := by decide +kernel
theorem dX3_obtain_7 : decode cX3_obtain 7 = .ok (.iload_n 1, 1) := by decide +kernel
theorem dX3_obtain_8 : decode cX3_obtain 8 = .ok (.aaload, 1) := by decide +kernel
theorem dX3_obtain_9 : decode cX3_obtain 9 = .ok (.iconst 1, 1) := by decide +kernel
theorem dX3_obtain_10 : decode cX3_obtain 10 = .ok (.iaload, 1) := by decide +kernel
theorem dX3_obtain_11 : decode cX3_obtain 11 = .ok (.istore_n 3, 1) := by decide +kernel
theorem dX3_obtain_12 : decode cX3_obtain 12 = .ok (.iload_n 3, 1) := by decide +kernel
theorem dX3_obtain_13 : decode cX3_obtain 13 = .ok (.iconst 1, 1) := by decide +kernel
theorem dX3_obtain_14 : decode cX3_obtain 14 = .ok (.if_icmp .ne 11, 3) := by decide +kernel
theorem dX3_obtain_17 : decode cX3_obtain 17 = .ok (.aload_n 0, 1) := by decide +kernel
theorem dX3_obtain_18 : decode cX3_obtain 18 = .ok (.iload_n 1, 1) := by decide +kernel
theorem dX3_obtain_19 : decode cX3_obtain 19 = .ok (.iconst (-1), 1) := by decide +kernel
theorem dX3_obtain_20 : decode cX3_obtain 20 = .ok (.iload_n 2, 1) := by decide +kernel
theorem dX3_obtain_21 : decode cX3_obtain 21 = .ok (.invokevirtual 233, 3) := by decide +kernel
theorem dX3_obtain_24 : decode cX3_obtain 24 = .ok (.ireturn, 1) := by decide +kernel
theorem dX3_obtain_25 : decode cX3_obtain 25 = .ok (.iload_n 3, 1) := by decide +kernel
theorem dX3_obtain_26 : decode cX3_obtain 26 = .ok (.iconst 2, 1) := by decide +kernel
theorem dX3_obtain_27 : decode cX3_obtain 27 = .ok (.if_icmp .ne 18, 3) := by decide +kernel
theorem dX3_obtain_30 : decode cX3_obtain 30 = .ok (.aload_n 0, 1) := by decide +kernel
theorem dX3_obtain_31 : decode cX3_obtain 31 = .ok (.getfield 30, 3) := by decide +kernel
theorem dX3_obtain_34 : decode cX3_obtain 34 = .ok (.ifCond .ne 11, 3) := by decide +kernel
theorem dX3_obtain_37 : decode cX3_obtain 37 = .ok (.aload_n 0, 1) := by decide +kernel
theorem dX3_obtain_38 : decode cX3_obtain 38 = .ok (.iconst 4, 1) := by decide +kernel
theorem dX3_obtain_39 : decode cX3_obtain 39 = .ok (.iload_n 1, 1) := by decide +kernel
theorem dX3_obtain_40 : decode cX3_obtain 40 = .ok (.iload_n 2, 1) := by decide +kernel
theorem dX3_obtain_41 : decode cX3_obtain 41 = .ok (.invokevirtual 230, 3) := by decide +kernel
theorem dX3_obtain_44 : decode cX3_obtain 44 = .ok (.ireturn, 1) := by decide +kernel
theorem dX3_obtain_45 : decode cX3_obtain 45 = .ok (.iload_n 3, 1) := by decide +kernel
theorem dX3_obtain_46 : decode cX3_obtain 46 = .ok (.ifCond .ne 7, 3) := by decide +kernel
theorem dX3_obtain_49 : decode cX3_obtain 49 = .ok (.iconst 0, 1) := by decide +kernel
theorem dX3_obtain_50 : decode cX3_obtain 50 = .ok (.goto 7, 3) := by decide +kernel
theorem dX3_obtain_53 : decode cX3_obtain 53 = .ok (.aload_n 0, 1) := by decide +kernel
theorem dX3_obtain_54 : decode cX3_obtain 54 = .ok (.getfield 30, 3) := by decide +kernel
theorem dX3_obtain_57 : decode cX3_obtain 57 = .ok (.istore 4, 2) := by decide +kernel
theorem dX3_obtain_59 : decode cX3_obtain 59 = .ok (.aload_n 0, 1) := by decide +kernel
theorem dX3_obtain_60 : decode cX3_obtain 60 = .ok (.getfield 19, 3) := by decide +kernel
theorem dX3_obtain_63 : decode cX3_obtain 63 = .ok (.getfield 236, 3) := by decide +kernel
theorem dX3_obtain_66 : decode cX3_obtain 66 = .ok (.iload 4, 2) := by decide +kernel
theorem dX3_obtain_68 : decode cX3_obtain 68 = .ok (.aaload, 1) := by decide +kernel
theorem dX3_obtain_69 : decode cX3_obtain 69 = .ok (.iload_n 1, 1) := by decide +kernel
theorem dX3_obtain_70 : decode cX3_obtain 70 = .ok (.iaload, 1) := by decide +kernel
theorem dX3_obtain_71 : decode cX3_obtain 71 = .ok (.istore 5, 2) := by decide +kernel
theorem dX3_obtain_73 : decode cX3_obtain 73 = .ok (.iload 5, 2) := by decide +kernel
theorem dX3_obtain_75 : decode cX3_obtain 75 = .ok (.iconst (-1), 1) := by decide +kernel
theorem dX3_obtain_76 : decode cX3_obtain 76 = .ok (.if_icmp .ne 14, 3) := by decide +kernel
theorem dX3_obtain_79 : decode cX3_obtain 79 = .ok (.aload_n 0, 1) := by decide +kernel
theorem dX3_obtain_80 : decode cX3_obtain 80 = .ok (.iload_n 1, 1) := by decide +kernel
theorem dX3_obtain_81 : decode cX3_obtain 81 = .ok (.iload 4, 2) := by decide +kernel
theorem dX3_obtain_83 : decode cX3_obtain 83 = .ok (.iload_n 2, 1) := by decide +kernel
theorem dX3_obtain_84 : decode cX3_obtain 84 = .ok (.invokevirtual 233, 3) := by decide +kernel
theorem dX3_obtain_87 : decode cX3_obtain 87 = .ok (.goto 5, 3) := by decide +kernel
theorem dX3_obtain_90 : decode cX3_obtain 90 = .ok (.iload 5, 2) := by decide +kernel
theorem dX3_obtain_92 : decode cX3_obtain 92 = .ok (.ireturn, 1) := by decide +kernel
theorem dX3_construct_0 : decode cX3_construct 0 = .ok (.iload_n 3, 1) := by decide +kernel
theorem dX3_construct_1 : decode cX3_construct 1 = .ok (.bipush 20, 2) := by decide +kernel
theorem dX3_construct_3 : decode cX3_construct 3 = .ok (.if_icmp .ge 12, 3) := by decide +kernel
theorem dX3_construct_6 : decode cX3_construct 6 = .ok (.aload_n 0, 1) := by decide +kernel
theorem dX3_construct_7 : decode cX3_construct 7 = .ok (.iload_n 1, 1) := by decide +kernel
theorem dX3_construct_8 : decode cX3_construct 8 = .ok (.iload_n 3, 1) := by decide +kernel
theorem dX3_construct_9 : decode cX3_construct 9 = .ok (.invokevirtual 239, 3) := by decide +kernel
theorem dX3_construct_12 : decode cX3_construct 12 = .ok (.ifCond .eq 11, 3) := by decide +kernel
theorem dX3_construct_15 : decode cX3_construct 15 = .ok (.aload_n 0, 1) := by decide +kernel
theorem dX3_construct_16 : decode cX3_construct 16 = .ok (.iconst 3, 1) := by decide +kernel
theorem dX3_construct_17 : decode cX3_construct 17 = .ok (.iload_n 1, 1) := by decide +kernel
theorem dX3_construct_18 : decode cX3_construct 18 = .ok (.iload_n 3, 1) := by decide +kernel
theorem dX3_construct_19 : decode cX3_construct 19 = .ok (.invokevirtual 230, 3) := by decide +kernel
theorem dX3_construct_22 : decode cX3_construct 22 = .ok (.ireturn, 1) := by decide +kernel
theorem dX3_construct_23 : decode cX3_construct 23 = .ok (.aload_n 0, 1) := by decide +kernel
theorem dX3_construct_24 : decode cX3_construct 24 = .ok (.getfield 34, 3) := by decide +kernel
theorem dX3_construct_27 : decode cX3_construct 27 = .ok (.iload_n 3, 1) := by decide +kernel
theorem dX3_construct_28 : decode cX3_construct 28 = .ok (.iload_n 1, 1) := by decide +kernel
theorem dX3_construct_29 : decode cX3_construct 29 = .ok (.iastore, 1) := by decide +kernel
theorem dX3_construct_30 : decode cX3_construct 30 = .ok (.aload_n 0, 1) := by decide +kernel
theorem dX3_construct_31 : decode cX3_construct 31 = .ok (.getfield 10, 3) := by decide +kernel
theorem dX3_construct_34 : decode cX3_construct 34 = .ok (.getfield 91, 3) := by decide +kernel
theorem dX3_construct_37 : decode cX3_construct 37 = .ok (.iload_n 1, 1) := by decide +kernel
theorem dX3_construct_38 : decode cX3_construct 38 = .ok (.iaload, 1) := by decide +kernel
theorem dX3_construct_39 : decode cX3_construct 39 = .ok (.istore 4, 2) := by decide +kernel
theorem dX3_construct_41 : decode cX3_construct 41 = .ok (.iconst 0, 1) := by decide +kernel
theorem dX3_construct_42 : decode cX3_construct 42 = .ok (.istore 5, 2) := by decide +kernel
theorem dX3_construct_44 : decode cX3_construct 44 = .ok (.iload 5, 2) := by decide +kernel
theorem dX3_construct_46 : decode cX3_construct 46 = .ok (.iload 4, 2) := by decide +kernel
theorem dX3_construct_48 : decode cX3_construct 48 = .ok (.if_icmp .ge 42, 3) := by decide +kernel
theorem dX3_construct_51 : decode cX3_construct 51 = .ok (.aload_n 0, 1) := by decide +kernel
theorem dX3_construct_52 : decode cX3_construct 52 = .ok (.iload_n 1, 1) := by decide +kernel
theorem dX3_construct_53 : decode cX3_construct 53 = .ok (.iload 5, 2) := by decide +kernel
theorem dX3_construct_55 : decode cX3_construct 55 = .ok (.iload_n 3, 1) := by decide +kernel
theorem dX3_construct_56 : decode cX3_construct 56 = .ok (.iconst 1, 1) := by decide +kernel
theorem dX3_construct_57 : decode cX3_construct 57 = .ok (.iadd, 1) := by decide +kernel
theorem dX3_construct_58 : decode cX3_construct 58 = .ok (.invokevirtual 242, 3) := by decide +kernel
theorem dX3_construct_61 : decode cX3_construct 61 = .ok (.istore 6, 2) := by decide +kernel
theorem dX3_construct_63 : decode cX3_construct 63 = .ok (.iload 6, 2) := by decide +kernel
theorem dX3_construct_65 : decode cX3_construct 65 = .ok (.bipush (-2), 2) := by decide +kernel
theorem dX3_construct_67 : decode cX3_construct 67 = .ok (.if_icmp .ne 6, 3) := by decide +kernel
theorem dX3_construct_70 : decode cX3_construct 70 = .ok (.bipush (-2), 2) := by decide +kernel
theorem dX3_construct_72 : decode cX3_construct 72 = .ok (.ireturn, 1) := by decide +kernel
theorem dX3_construct_73 : decode cX3_construct 73 = .ok (.aload_n 0, 1) := by decide +kernel
theorem dX3_construct_74 : decode cX3_construct 74 = .ok (.getfield 40, 3) := by decide +kernel
theorem dX3_construct_77 : decode cX3_construct 77 = .ok (.iload_n 3, 1) := by decide +kernel
theorem dX3_construct_78 : decode cX3_construct 78 = .ok (.aaload, 1) := by decide +kernel
theorem dX3_construct_79 : decode cX3_construct 79 = .ok (.iload 5, 2) := by decide +kernel
theorem dX3_construct_81 : decode cX3_construct 81 = .ok (.iload 6, 2) := by decide +kernel
theorem dX3_construct_83 : decode cX3_construct 83 = .ok (.iastore, 1) := by decide +kernel
theorem dX3_construct_84 : decode cX3_construct 84 = .ok (.iinc 5 1, 3) := by decide +kernel
theorem dX3_construct_87 : decode cX3_construct 87 = .ok (.goto (-43), 3) := by decide +kernel
theorem dX3_construct_90 : decode cX3_construct 90 = .ok (.aload_n 0, 1) := by decide +kernel
theorem dX3_construct_91 : decode cX3_construct 91 = .ok (.iload_n 1, 1) := by decide +kernel
theorem dX3_construct_92 : decode cX3_construct 92 = .ok (.iload_n 2, 1) := by decide +kernel
theorem dX3_construct_93 : decode cX3_construct 93 = .ok (.iload_n 3, 1) := by decide +kernel
theorem dX3_construct_94 : decode cX3_construct 94 = .ok (.invokevirtual 245, 3) := by decide +kernel
theorem dX3_construct_97 : decode cX3_construct 97 = .ok (.ireturn, 1) := by decide +kernel
theorem dX3_isUnderConstruction_0 : decode cX3_isUnderConstruction 0 = .ok (.iconst 0, 1) := by decide +kernel
theorem dX3_isUnderConstruction_1 : decode cX3_isUnderConstruction 1 = .ok (.istore_n 3, 1) := by decide +kernel
theorem dX3_isUnderConstruction_2 : decode cX3_isUnderConstruction 2 = .ok (.iload_n 3, 1) := by decide +kernel
theorem dX3_isUnderConstruction_3 : decode cX3_isUnderConstruction 3 = .ok (.iload_n 2, 1) := by decide +kernel
theorem dX3_isUnderConstruction_4 : decode cX3_isUnderConstruction 4 = .ok (.if_icmp .ge 21, 3) := by decide +kernel
theorem dX3_isUnderConstruction_7 : decode cX3_isUnderConstruction 7 = .ok (.aload_n 0, 1) := by decide +kernel
theorem dX3_isUnderConstruction_8 : decode cX3_isUnderConstruction 8 = .ok (.getfield 34, 3) := by decide +kernel
theorem dX3_isUnderConstruction_11 : decode cX3_isUnderConstruction 11 = .ok (.iload_n 3, 1) := by decide +kernel
theorem dX3_isUnderConstruction_12 : decode cX3_isUnderConstruction 12 = .ok (.iaload, 1) := by decide +kernel
theorem dX3_isUnderConstruction_13 : decode cX3_isUnderConstruction 13 = .ok (.iload_n 1, 1) := by decide +kernel
theorem dX3_isUnderConstruction_14 : decode cX3_isUnderConstruction 14 = .ok (.if_icmp .ne 5, 3) := by decide +kernel
theorem dX3_isUnderConstruction_17 : decode cX3_isUnderConstruction 17 = .ok (.iconst 1, 1) := by decide +kernel
theorem dX3_isUnderConstruction_18 : decode cX3_isUnderConstruction 18 = .ok (.ireturn, 1) := by decide +kernel
theorem dX3_isUnderConstruction_19 : decode cX3_isUnderConstruction 19 = .ok (.iinc 3 1, 3) := by decide +kernel
theorem dX3_isUnderConstruction_22 : decode cX3_isUnderConstruction 22 = .ok (.goto (-20), 3) := by decide +kernel
theorem dX3_isUnderConstruction_25 : decode cX3_isUnderConstruction 25 = .ok (.iconst 0, 1) := by decide +kernel
theorem dX3_isUnderConstruction_26 : decode cX3_isUnderConstruction 26 = .ok (.ireturn, 1) := by decide +kernel
theorem dX3_inject_0 : decode cX3_inject 0 = .ok (.aload_n 0, 1) := by decide +kernel
theorem dX3_inject_1 : decode cX3_inject 1 = .ok (.getfield 10, 3) := by decide +kernel
theorem dX3_inject_4 : decode cX3_inject 4 = .ok (.iload_n 1, 1) := by decide +kernel
theorem dX3_inject_5 : decode cX3_inject 5 = .ok (.iload_n 2, 1) := by decide +kernel
theorem dX3_inject_6 : decode cX3_inject 6 = .ok (.iconst 2, 1) := by decide +kernel
theorem dX3_inject_7 : decode cX3_inject 7 = .ok (.invokevirtual 105, 3) := by decide +kernel
theorem dX3_inject_10 : decode cX3_inject 10 = .ok (.istore 4, 2) := by decide +kernel
theorem dX3_inject_12 : decode cX3_inject 12 = .ok (.iload 4, 2) := by decide +kernel
theorem dX3_inject_14 : decode cX3_inject 14 = .ok (.iconst 3, 1) := by decide +kernel
theorem dX3_inject_15 : decode cX3_inject 15 = .ok (.if_icmp .ne 5, 3) := by decide +kernel
theorem dX3_inject_18 : decode cX3_inject 18 = .ok (.iconst (-1), 1) := by decide +kernel
theorem dX3_inject_19 : decode cX3_inject 19 = .ok (.ireturn, 1) := by decide +kernel
theorem dX3_inject_20 : decode cX3_inject 20 = .ok (.aload_n 0, 1) := by decide +kernel
theorem dX3_inject_21 : decode cX3_inject 21 = .ok (.getfield 10, 3) := by decide +kernel
theorem dX3_inject_24 : decode cX3_inject 24 = .ok (.iload_n 1, 1) := by decide +kernel
theorem dX3_inject_25 : decode cX3_inject 25 = .ok (.iload_n 2, 1) := by decide +kernel
theorem dX3_inject_26 : decode cX3_inject 26 = .ok (.invokevirtual 219, 3) := by decide +kernel
theorem dX3_inject_29 : decode cX3_inject 29 = .ok (.istore 5, 2) := by decide +kernel
theorem dX3_inject_31 : decode cX3_inject 31 = .ok (.iload 4, 2) := by decide +kernel
theorem dX3_inject_33 : decode cX3_inject 33 = .ok (.iconst 2, 1) := by decide +kernel
theorem dX3_inject_34 : decode cX3_inject 34 = .ok (.if_icmp .ne 11, 3) := by decide +kernel
theorem dX3_inject_37 : decode cX3_inject 37 = .ok (.aload_n 0, 1) := by decide +kernel
theorem dX3_inject_38 : decode cX3_inject 38 = .ok (.iload 5, 2) := by decide +kernel
theorem dX3_inject_40 : decode cX3_inject 40 = .ok (.iload_n 3, 1) := by decide +kernel
theorem dX3_inject_41 : decode cX3_inject 41 = .ok (.invokevirtual 248, 3) := by decide +kernel
theorem dX3_inject_44 : decode cX3_inject 44 = .ok (.ireturn, 1) := by decide +kernel
theorem dX3_inject_45 : decode cX3_inject 45 = .ok (.iload 4, 2) := by decide +kernel
theorem dX3_inject_47 : decode cX3_inject 47 = .ok (.iconst 1, 1) := by decide +kernel
theorem dX3_inject_48 : decode cX3_inject 48 = .ok (.if_icmp .ne 10, 3) := by decide +kernel
theorem dX3_inject_51 : decode cX3_inject 51 = .ok (.iload 5, 2) := by decide +kernel
theorem dX3_inject_53 : decode cX3_inject 53 = .ok (.ifCond .ne 5, 3) := by decide +kernel
theorem dX3_inject_56 : decode cX3_inject 56 = .ok (.iconst (-1), 1) := by decide +kernel
theorem dX3_inject_57 : decode cX3_inject 57 = .ok (.ireturn, 1) := by decide +kernel
theorem dX3_inject_58 : decode cX3_inject 58 = .ok (.aload_n 0, 1) := by decide +kernel
theorem dX3_inject_59 : decode cX3_inject 59 = .ok (.aload_n 0, 1) := by decide +kernel
theorem dX3_inject_60 : decode cX3_inject 60 = .ok (.getfield 10, 3) := by decide +kernel
theorem dX3_inject_63 : decode cX3_inject 63 = .ok (.iload_n 1, 1) := by decide +kernel
theorem dX3_inject_64 : decode cX3_inject 64 = .ok (.iload_n 2, 1) := by decide +kernel
theorem dX3_inject_65 : decode cX3_inject 65 = .ok (.iconst 0, 1) := by decide +kernel
theorem dX3_inject_66 : decode cX3_inject 66 = .ok (.invokevirtual 105, 3) := by decide +kernel
theorem dX3_inject_69 : decode cX3_inject 69 = .ok (.aload_n 0, 1) := by decide +kernel
theorem dX3_inject_70 : decode cX3_inject 70 = .ok (.getfield 10, 3) := by decide +kernel
theorem dX3_inject_73 : decode cX3_inject 73 = .ok (.iload_n 1, 1) := by decide +kernel
theorem dX3_inject_74 : decode cX3_inject 74 = .ok (.iload_n 2, 1) := by decide +kernel
theorem dX3_inject_75 : decode cX3_inject 75 = .ok (.iconst 1, 1) := by decide +kernel
theorem dX3_inject_76 : decode cX3_inject 76 = .ok (.invokevirtual 105, 3) := by decide +kernel
theorem dX3_inject_79 : decode cX3_inject 79 = .ok (.iload_n 3, 1) := by decide +kernel
theorem dX3_inject_80 : decode cX3_inject 80 = .ok (.invokevirtual 225, 3) := by decide +kernel
theorem dX3_inject_83 : decode cX3_inject 83 = .ok (.ireturn, 1) := by decide +kernel
theorem dX3_obtainEach_0 : decode cX3_obtainEach 0 = .ok (.iconst 0, 1) := by decide +kernel
theorem dX3_obtainEach_1 : decode cX3_obtainEach 1 = .ok (.istore_n 3, 1) := by decide +kernel
theorem dX3_obtainEach_2 : decode cX3_obtainEach 2 = .ok (.iconst 0, 1) := by decide +kernel
theorem dX3_obtainEach_3 : decode cX3_obtainEach 3 = .ok (.istore 4, 2) := by decide +kernel
theorem dX3_obtainEach_5 : decode cX3_obtainEach 5 = .ok (.iload 4, 2) := by decide +kernel
theorem dX3_obtainEach_7 : decode cX3_obtainEach 7 = .ok (.aload_n 0, 1) := by decide +kernel
theorem dX3_obtainEach_8 : decode cX3_obtainEach 8 = .ok (.getfield 10, 3) := by decide +kernel
theorem dX3_obtainEach_11 : decode cX3_obtainEach 11 = .ok (.getfield 57, 3) := by decide +kernel
theorem dX3_obtainEach_14 : decode cX3_obtainEach 14 = .ok (.if_icmp .ge 36, 3) := by decide +kernel
theorem dX3_obtainEach_17 : decode cX3_obtainEach 17 = .ok (.iload_n 1, 1) := by decide +kernel
theorem dX3_obtainEach_18 : decode cX3_obtainEach 18 = .ok (.iload 4, 2) := by decide +kernel
theorem dX3_obtainEach_20 : decode cX3_obtainEach 20 = .ok (.invokestatic 114, 3) := by decide +kernel
theorem dX3_obtainEach_23 : decode cX3_obtainEach 23 = .ok (.ifCond .eq 21, 3) := by decide +kernel
theorem dX3_obtainEach_26 : decode cX3_obtainEach 26 = .ok (.aload_n 0, 1) := by decide +kernel
theorem dX3_obtainEach_27 : decode cX3_obtainEach 27 = .ok (.iload 4, 2) := by decide +kernel
theorem dX3_obtainEach_29 : decode cX3_obtainEach 29 = .ok (.iload_n 2, 1) := by decide +kernel
theorem dX3_obtainEach_30 : decode cX3_obtainEach 30 = .ok (.invokevirtual 156, 3) := by decide +kernel
theorem dX3_obtainEach_33 : decode cX3_obtainEach 33 = .ok (.bipush (-2), 2) := by decide +kernel
theorem dX3_obtainEach_35 : decode cX3_obtainEach 35 = .ok (.if_icmp .ne 6, 3) := by decide +kernel
theorem dX3_obtainEach_38 : decode cX3_obtainEach 38 = .ok (.bipush (-2), 2) := by decide +kernel
theorem dX3_obtainEach_40 : decode cX3_obtainEach 40 = .ok (.ireturn, 1) := by decide +kernel
theorem dX3_obtainEach_41 : decode cX3_obtainEach 41 = .ok (.iinc 3 1, 3) := by decide +kernel
theorem dX3_obtainEach_44 : decode cX3_obtainEach 44 = .ok (.iinc 4 1, 3) := by decide +kernel
theorem dX3_obtainEach_47 : decode cX3_obtainEach 47 = .ok (.goto (-42), 3) := by decide +kernel
theorem dX3_obtainEach_50 : decode cX3_obtainEach 50 = .ok (.iload_n 3, 1) := by decide +kernel
theorem dX3_obtainEach_51 : decode cX3_obtainEach 51 = .ok (.ireturn, 1) := by decide +kernel
theorem dX3_complete_0 : decode cX3_complete 0 = .ok (.aload_n 0, 1) := by decide +kernel
theorem dX3_complete_1 : decode cX3_complete 1 = .ok (.getfield 19, 3) := by decide +kernel
theorem dX3_complete_4 : decode cX3_complete 4 = .ok (.getfield 151, 3) := by decide +kernel
theorem dX3_complete_7 : decode cX3_complete 7 = .ok (.sipush 300, 3) := by decide +kernel
theorem dX3_complete_10 : decode cX3_complete 10 = .ok (.if_icmp .lt 13, 3) := by decide +kernel
theorem dX3_complete_13 : decode cX3_complete 13 = .ok (.aload_n 0, 1) := by decide +kernel
theorem dX3_complete_14 : decode cX3_complete 14 = .ok (.iconst 5, 1) := by decide +kernel
theorem dX3_complete_15 : decode cX3_complete 15 = .ok (.iload_n 1, 1) := by decide +kernel
theorem dX3_complete_16 : decode cX3_complete 16 = .ok (.iload_n 3, 1) := by decide +kernel
theorem dX3_complete_17 : decode cX3_complete 17 = .ok (.iconst 1, 1) := by decide +kernel
theorem dX3_complete_18 : decode cX3_complete 18 = .ok (.iadd, 1) := by decide +kernel
theorem dX3_complete_19 : decode cX3_complete 19 = .ok (.invokevirtual 230, 3) := by decide +kernel
theorem dX3_complete_22 : decode cX3_complete 22 = .ok (.ireturn, 1) := by decide +kernel
theorem dX3_complete_23 : decode cX3_complete 23 = .ok (.aload_n 0, 1) := by decide +kernel
theorem dX3_complete_24 : decode cX3_complete 24 = .ok (.getfield 10, 3) := by decide +kernel
theorem dX3_complete_27 : decode cX3_complete 27 = .ok (.getfield 78, 3) := by decide +kernel
theorem dX3_complete_30 : decode cX3_complete 30 = .ok (.iload_n 1, 1) := by decide +kernel
theorem dX3_complete_31 : decode cX3_complete 31 = .ok (.aaload, 1) := by decide +kernel
theorem dX3_complete_32 : decode cX3_complete 32 = .ok (.bipush 6, 2) := by decide +kernel
theorem dX3_complete_34 : decode cX3_complete 34 = .ok (.iaload, 1) := by decide +kernel
theorem dX3_complete_35 : decode cX3_complete 35 = .ok (.istore 4, 2) := by decide +kernel
theorem dX3_complete_37 : decode cX3_complete 37 = .ok (.iload 4, 2) := by decide +kernel
theorem dX3_complete_39 : decode cX3_complete 39 = .ok (.iconst (-1), 1) := by decide +kernel
theorem dX3_complete_40 : decode cX3_complete 40 = .ok (.if_icmp .eq 28, 3) := by decide +kernel
theorem dX3_complete_43 : decode cX3_complete 43 = .ok (.aload_n 0, 1) := by decide +kernel
theorem dX3_complete_44 : decode cX3_complete 44 = .ok (.getfield 19, 3) := by decide +kernel
theorem dX3_complete_47 : decode cX3_complete 47 = .ok (.getfield 251, 3) := by decide +kernel
theorem dX3_complete_50 : decode cX3_complete 50 = .ok (.iload_n 1, 1) := by decide +kernel
theorem dX3_complete_51 : decode cX3_complete 51 = .ok (.iaload, 1) := by decide +kernel
theorem dX3_complete_52 : decode cX3_complete 52 = .ok (.iload 4, 2) := by decide +kernel
theorem dX3_complete_54 : decode cX3_complete 54 = .ok (.if_icmp .lt 14, 3) := by decide +kernel
theorem dX3_complete_57 : decode cX3_complete 57 = .ok (.aload_n 0, 1) := by decide +kernel
theorem dX3_complete_58 : decode cX3_complete 58 = .ok (.bipush 6, 2) := by decide +kernel
theorem dX3_complete_60 : decode cX3_complete 60 = .ok (.iload_n 1, 1) := by decide +kernel
theorem dX3_complete_61 : decode cX3_complete 61 = .ok (.iload_n 3, 1) := by decide +kernel
theorem dX3_complete_62 : decode cX3_complete 62 = .ok (.iconst 1, 1) := by decide +kernel
theorem dX3_complete_63 : decode cX3_complete 63 = .ok (.iadd, 1) := by decide +kernel
theorem dX3_complete_64 : decode cX3_complete 64 = .ok (.invokevirtual 230, 3) := by decide +kernel
theorem dX3_complete_67 : decode cX3_complete 67 = .ok (.ireturn, 1) := by decide +kernel
theorem dX3_complete_68 : decode cX3_complete 68 = .ok (.aload_n 0, 1) := by decide +kernel
theorem dX3_complete_69 : decode cX3_complete 69 = .ok (.getfield 19, 3) := by decide +kernel
theorem dX3_complete_72 : decode cX3_complete 72 = .ok (.iload_n 1, 1) := by decide +kernel
theorem dX3_complete_73 : decode cX3_complete 73 = .ok (.iload_n 2, 1) := by decide +kernel
theorem dX3_complete_74 : decode cX3_complete 74 = .ok (.aload_n 0, 1) := by decide +kernel
theorem dX3_complete_75 : decode cX3_complete 75 = .ok (.getfield 40, 3) := by decide +kernel
theorem dX3_complete_78 : decode cX3_complete 78 = .ok (.iload_n 3, 1) := by decide +kernel
theorem dX3_complete_79 : decode cX3_complete 79 = .ok (.aaload, 1) := by decide +kernel
theorem dX3_complete_80 : decode cX3_complete 80 = .ok (.aload_n 0, 1) := by decide +kernel
theorem dX3_complete_81 : decode cX3_complete 81 = .ok (.getfield 10, 3) := by decide +kernel
theorem dX3_complete_84 : decode cX3_complete 84 = .ok (.getfield 91, 3) := by decide +kernel
theorem dX3_complete_87 : decode cX3_complete 87 = .ok (.iload_n 1, 1) := by decide +kernel
theorem dX3_complete_88 : decode cX3_complete 88 = .ok (.iaload, 1) := by decide +kernel
theorem dX3_complete_89 : decode cX3_complete 89 = .ok (.invokevirtual 254, 3) := by decide +kernel
theorem dX3_complete_92 : decode cX3_complete 92 = .ok (.ireturn, 1) := by decide +kernel
theorem dX3_recordFailure_0 : decode cX3_recordFailure 0 = .ok (.aload_n 0, 1) := by decide +kernel
theorem dX3_recordFailure_1 : decode cX3_recordFailure 1 = .ok (.getfield 26, 3) := by decide +kernel
theorem dX3_recordFailure_4 : decode cX3_recordFailure 4 = .ok (.iload_n 1, 1) := by decide +kernel
theorem dX3_recordFailure_5 : decode cX3_recordFailure 5 = .ok (.iload_n 2, 1) := by decide +kernel
theorem dX3_recordFailure_6 : decode cX3_recordFailure 6 = .ok (.aload_n 0, 1) := by decide +kernel
theorem dX3_recordFailure_7 : decode cX3_recordFailure 7 = .ok (.getfield 34, 3) := by decide +kernel
theorem dX3_recordFailure_10 : decode cX3_recordFailure 10 = .ok (.iload_n 3, 1) := by decide +kernel
theorem dX3_recordFailure_11 : decode cX3_recordFailure 11 = .ok (.invokevirtual 257, 3) := by decide +kernel
theorem dX3_recordFailure_14 : decode cX3_recordFailure 14 = .ok (.bipush (-2), 2) := by decide +kernel
theorem dX3_recordFailure_16 : decode cX3_recordFailure 16 = .ok (.ireturn, 1) := by decide +kernel
theorem dX3_closeInnermostScope_0 : decode cX3_closeInnermostScope 0 = .ok (.aload_n 0, 1) := by decide +kernel
theorem dX3_closeInnermostScope_1 : decode cX3_closeInnermostScope 1 = .ok (.getfield 19, 3) := by decide +kernel
theorem dX3_closeInnermostScope_4 : decode cX3_closeInnermostScope 4 = .ok (.aload_n 0, 1) := by decide +kernel
theorem dX3_closeInnermostScope_5 : decode cX3_closeInnermostScope 5 = .ok (.getfield 30, 3) := by decide +kernel
theorem dX3_closeInnermostScope_8 : decode cX3_closeInnermostScope 8 = .ok (.invokevirtual 172, 3) := by decide +kernel
theorem dX3_closeInnermostScope_11 : decode cX3_closeInnermostScope 11 = .ok (.istore_n 1, 1) := by decide +kernel
theorem dX3_closeInnermostScope_12 : decode cX3_closeInnermostScope 12 = .ok (.aload_n 0, 1) := by decide +kernel
theorem dX3_closeInnermostScope_13 : decode cX3_closeInnermostScope 13 = .ok (.dup, 1) := by decide +kernel
theorem dX3_closeInnermostScope_14 : decode cX3_closeInnermostScope 14 = .ok (.getfield 30, 3) := by decide +kernel
theorem dX3_closeInnermostScope_17 : decode cX3_closeInnermostScope 17 = .ok (.iconst 1, 1) := by decide +kernel
theorem dX3_closeInnermostScope_18 : decode cX3_closeInnermostScope 18 = .ok (.isub, 1) := by decide +kernel
theorem dX3_closeInnermostScope_19 : decode cX3_closeInnermostScope 19 = .ok (.putfield 30, 3) := by decide +kernel
theorem dX3_closeInnermostScope_22 : decode cX3_closeInnermostScope 22 = .ok (.iload_n 1, 1) := by decide +kernel
theorem dX3_closeInnermostScope_23 : decode cX3_closeInnermostScope 23 = .ok (.ireturn, 1) := by decide +kernel
theorem dX3_isIn_0 : decode cX3_isIn 0 = .ok (.iload_n 0, 1) := by decide +kernel
theorem dX3_isIn_1 : decode cX3_isIn 1 = .ok (.iconst 1, 1) := by decide +kernel
theorem dX3_isIn_2 : decode cX3_isIn 2 = .ok (.iload_n 1, 1) := by decide +kernel
theorem dX3_isIn_3 : decode cX3_isIn 3 = .ok (.ishl, 1) := by decide +kernel
theorem dX3_isIn_4 : decode cX3_isIn 4 = .ok (.iand, 1) := by decide +kernel
theorem dX3_isIn_5 : decode cX3_isIn 5 = .ok (.ifCond .eq 7, 3) := by decide +kernel
theorem dX3_isIn_8 : decode cX3_isIn 8 = .ok (.iconst 1, 1) := by decide +kernel
theorem dX3_isIn_9 : decode cX3_isIn 9 = .ok (.goto 4, 3) := by decide +kernel
theorem dX3_isIn_12 : decode cX3_isIn 12 = .ok (.iconst 0, 1) := by decide +kernel
theorem dX3_isIn_13 : decode cX3_isIn 13 = .ok (.ireturn, 1) := by decide +kernel
theorem dX4_init_0 : decode cX4_init 0 = .ok (.aload_n 0, 1) := by decide +kernel
theorem dX4_init_1 : decode cX4_init 1 = .ok (.invokespecial 1, 3) := by decide +kernel
theorem dX4_init_4 : decode cX4_init 4 = .ok (.aload_n 0, 1) := by decide +kernel
theorem dX4_init_5 : decode cX4_init 5 = .ok (.sipush 140, 3) := by decide +kernel
theorem dX4_init_8 : decode cX4_init 8 = .ok (.newarray .int, 2) := by decide +kernel
theorem dX4_init_10 : decode cX4_init 10 = .ok (.putfield 7, 3) := by decide +kernel
theorem dX4_init_13 : decode cX4_init 13 = .ok (.aload_n 0, 1) := by decide +kernel
theorem dX4_init_14 : decode cX4_init 14 = .ok (.bipush 20, 2) := by decide +kernel
theorem dX4_init_16 : decode cX4_init 16 = .ok (.newarray .int, 2) := by decide +kernel
theorem dX4_init_18 : decode cX4_init 18 = .ok (.putfield 13, 3) := by decide +kernel
theorem dX4_init_21 : decode cX4_init 21 = .ok (.aload_n 0, 1) := by decide +kernel
theorem dX4_init_22 : decode cX4_init 22 = .ok (.sipush 360, 3) := by decide +kernel
theorem dX4_init_25 : decode cX4_init 25 = .ok (.newarray .int, 2) := by decide +kernel
theorem dX4_init_27 : decode cX4_init 27 = .ok (.putfield 16, 3) := by decide +kernel
theorem dX4_init_30 : decode cX4_init 30 = .ok (.aload_n 0, 1) := by decide +kernel
theorem dX4_init_31 : decode cX4_init 31 = .ok (.bipush 20, 2) := by decide +kernel
theorem dX4_init_33 : decode cX4_init 33 = .ok (.newarray .int, 2) := by decide +kernel
theorem dX4_init_35 : decode cX4_init 35 = .ok (.putfield 19, 3) := by decide +kernel
theorem dX4_init_38 : decode cX4_init 38 = .ok (.aload_n 0, 1) := by decide +kernel
theorem dX4_init_39 : decode cX4_init 39 = .ok (.bipush 21, 2) := by decide +kernel
theorem dX4_init_41 : decode cX4_init 41 = .ok (.newarray .int, 2) := by decide +kernel
theorem dX4_init_43 : decode cX4_init 43 = .ok (.putfield 22, 3) := by decide +kernel
theorem dX4_init_46 : decode cX4_init 46 = .ok (.aload_n 0, 1) := by decide +kernel
theorem dX4_init_47 : decode cX4_init 47 = .ok (.bipush 21, 2) := by decide +kernel
theorem dX4_init_49 : decode cX4_init 49 = .ok (.newarray .int, 2) := by decide +kernel
theorem dX4_init_51 : decode cX4_init 51 = .ok (.putfield 25, 3) := by decide +kernel
theorem dX4_init_54 : decode cX4_init 54 = .ok (.aload_n 0, 1) := by decide +kernel
theorem dX4_init_55 : decode cX4_init 55 = .ok (.bipush 21, 2) := by decide +kernel
theorem dX4_init_57 : decode cX4_init 57 = .ok (.newarray .int, 2) := by decide +kernel
theorem dX4_init_59 : decode cX4_init 59 = .ok (.putfield 28, 3) := by decide +kernel
theorem dX4_init_62 : decode cX4_init 62 = .ok (.aload_n 0, 1) := by decide +kernel
theorem dX4_init_63 : decode cX4_init 63 = .ok (.sipush 300, 3) := by decide +kernel
theorem dX4_init_66 : decode cX4_init 66 = .ok (.newarray .int, 2) := by decide +kernel
theorem dX4_init_68 : decode cX4_init 68 = .ok (.putfield 31, 3) := by decide +kernel
theorem dX4_init_71 : decode cX4_init 71 = .ok (.aload_n 0, 1) := by decide +kernel
theorem dX4_init_72 : decode cX4_init 72 = .ok (.sipush 300, 3) := by decide +kernel
theorem dX4_init_75 : decode cX4_init 75 = .ok (.newarray .int, 2) := by decide +kernel
theorem dX4_init_77 : decode cX4_init 77 = .ok (.putfield 34, 3) := by decide +kernel
theorem dX4_init_80 : decode cX4_init 80 = .ok (.aload_n 0, 1) := by decide +kernel
theorem dX4_init_81 : decode cX4_init 81 = .ok (.sipush 300, 3) := by decide +kernel
theorem dX4_init_84 : decode cX4_init 84 = .ok (.newarray .int, 2) := by decide +kernel
theorem dX4_init_86 : decode cX4_init 86 = .ok (.putfield 37, 3) := by decide +kernel
theorem dX4_init_89 : decode cX4_init 89 = .ok (.aload_n 0, 1) := by decide +kernel
theorem dX4_init_90 : decode cX4_init 90 = .ok (.sipush 300, 3) := by decide +kernel
theorem dX4_init_93 : decode cX4_init 93 = .ok (.newarray .boolean, 2) := by decide +kernel
theorem dX4_init_95 : decode cX4_init 95 = .ok (.putfield 40, 3) := by decide +kernel
theorem dX4_init_98 : decode cX4_init 98 = .ok (.aload_n 0, 1) := by decide +kernel
theorem dX4_init_99 : decode cX4_init 99 = .ok (.sipush 300, 3) := by decide +kernel
theorem dX4_init_102 : decode cX4_init 102 = .ok (.newarray .int, 2) := by decide +kernel
theorem dX4_init_104 : decode cX4_init 104 = .ok (.putfield 44, 3) := by decide +kernel
theorem dX4_init_107 : decode cX4_init 107 = .ok (.aload_n 0, 1) := by decide +kernel
theorem dX4_init_108 : decode cX4_init 108 = .ok (.sipush 1800, 3) := by decide +kernel
theorem dX4_init_111 : decode cX4_init 111 = .ok (.newarray .int, 2) := by decide +kernel
theorem dX4_init_113 : decode cX4_init 113 = .ok (.putfield 47, 3) := by decide +kernel
theorem dX4_init_116 : decode cX4_init 116 = .ok (.aload_n 0, 1) := by decide +kernel
theorem dX4_init_117 : decode cX4_init 117 = .ok (.sipush 600, 3) := by decide +kernel
theorem dX4_init_120 : decode cX4_init 120 = .ok (.newarray .int, 2) := by decide +kernel
theorem dX4_init_122 : decode cX4_init 122 = .ok (.putfield 50, 3) := by decide +kernel
theorem dX4_init_125 : decode cX4_init 125 = .ok (.aload_n 0, 1) := by decide +kernel
theorem dX4_init_126 : decode cX4_init 126 = .ok (.bipush 20, 2) := by decide +kernel
theorem dX4_init_128 : decode cX4_init 128 = .ok (.newarray .int, 2) := by decide +kernel
theorem dX4_init_130 : decode cX4_init 130 = .ok (.putfield 53, 3) := by decide +kernel
theorem dX4_init_133 : decode cX4_init 133 = .ok (.aload_n 0, 1) := by decide +kernel
theorem dX4_init_134 : decode cX4_init 134 = .ok (.bipush 21, 2) := by decide +kernel
theorem dX4_init_136 : decode cX4_init 136 = .ok (.newarray .int, 2) := by decide +kernel
theorem dX4_init_138 : decode cX4_init 138 = .ok (.putfield 56, 3) := by decide +kernel
theorem dX4_init_141 : decode cX4_init 141 = .ok (.aload_n 0, 1) := by decide +kernel
theorem dX4_init_142 : decode cX4_init 142 = .ok (.bipush 21, 2) := by decide +kernel
theorem dX4_init_144 : decode cX4_init 144 = .ok (.newarray .boolean, 2) := by decide +kernel
theorem dX4_init_146 : decode cX4_init 146 = .ok (.putfield 59, 3) := by decide +kernel
theorem dX4_init_149 : decode cX4_init 149 = .ok (.aload_n 0, 1) := by decide +kernel
theorem dX4_init_150 : decode cX4_init 150 = .ok (.bipush 21, 2) := by decide +kernel
theorem dX4_init_152 : decode cX4_init 152 = .ok (.newarray .int, 2) := by decide +kernel
theorem dX4_init_154 : decode cX4_init 154 = .ok (.putfield 62, 3) := by decide +kernel
theorem dX4_init_157 : decode cX4_init 157 = .ok (.aload_n 0, 1) := by decide +kernel
theorem dX4_init_158 : decode cX4_init 158 = .ok (.bipush 126, 2) := by decide +kernel
theorem dX4_init_160 : decode cX4_init 160 = .ok (.newarray .int, 2) := by decide +kernel
theorem dX4_init_162 : decode cX4_init 162 = .ok (.putfield 65, 3) := by decide +kernel
theorem dX4_init_165 : decode cX4_init 165 = .ok (.aload_n 0, 1) := by decide +kernel
theorem dX4_init_166 : decode cX4_init 166 = .ok (.iconst (-1), 1) := by decide +kernel
theorem dX4_init_167 : decode cX4_init 167 = .ok (.putfield 68, 3) := by decide +kernel
theorem dX4_init_170 : decode cX4_init 170 = .ok (.return_, 1) := by decide +kernel
theorem dX4_thrown_0 : decode cX4_thrown 0 = .ok (.aload_n 0, 1) := by decide +kernel
theorem dX4_thrown_1 : decode cX4_thrown 1 = .ok (.getfield 72, 3) := by decide +kernel
theorem dX4_thrown_4 : decode cX4_thrown 4 = .ok (.ireturn, 1) := by decide +kernel
theorem dX4_in_0 : decode cX4_in 0 = .ok (.iload_n 0, 1) := by decide +kernel
theorem dX4_in_1 : decode cX4_in 1 = .ok (.iload_n 1, 1) := by decide +kernel
theorem dX4_in_2 : decode cX4_in 2 = .ok (.if_icmp .lt 12, 3) := by decide +kernel
theorem dX4_in_5 : decode cX4_in 5 = .ok (.iload_n 0, 1) := by decide +kernel
theorem dX4_in_6 : decode cX4_in 6 = .ok (.iload_n 2, 1) := by decide +kernel
theorem dX4_in_7 : decode cX4_in 7 = .ok (.if_icmp .gt 7, 3) := by decide +kernel
theorem dX4_in_10 : decode cX4_in 10 = .ok (.iconst 1, 1) := by decide +kernel
theorem dX4_in_11 : decode cX4_in 11 = .ok (.goto 4, 3) := by decide +kernel
theorem dX4_in_14 : decode cX4_in 14 = .ok (.iconst 0, 1) := by decide +kernel
theorem dX4_in_15 : decode cX4_in 15 = .ok (.ireturn, 1) := by decide +kernel
theorem dX4_isComponent_0 : decode cX4_isComponent 0 = .ok (.iload_n 1, 1) := by decide +kernel
theorem dX4_isComponent_1 : decode cX4_isComponent 1 = .ok (.iconst 0, 1) := by decide +kernel
theorem dX4_isComponent_2 : decode cX4_isComponent 2 = .ok (.aload_n 0, 1) := by decide +kernel
theorem dX4_isComponent_3 : decode cX4_isComponent 3 = .ok (.getfield 75, 3) := by decide +kernel
theorem dX4_isComponent_6 : decode cX4_isComponent 6 = .ok (.iconst 1, 1) := by decide +kernel
theorem dX4_isComponent_7 : decode cX4_isComponent 7 = .ok (.isub, 1) := by decide +kernel
theorem dX4_isComponent_8 : decode cX4_isComponent 8 = .ok (.invokestatic 78, 3) := by decide +kernel
theorem dX4_isComponent_11 : decode cX4_isComponent 11 = .ok (.ireturn, 1) := by decide +kernel
theorem dX4_of_0 : decode cX4_of 0 = .ok (.aload_n 0, 1) := by decide +kernel
theorem dX4_of_1 : decode cX4_of 1 = .ok (.getfield 7, 3) := by decide +kernel
theorem dX4_of_4 : decode cX4_of 4 = .ok (.bipush 7, 2) := by decide +kernel
theorem dX4_of_6 : decode cX4_of 6 = .ok (.iload_n 1, 1) := by decide +kernel
theorem dX4_of_7 : decode cX4_of 7 = .ok (.imul, 1) := by decide +kernel
theorem dX4_of_8 : decode cX4_of 8 = .ok (.iload_n 2, 1) := by decide +kernel
theorem dX4_of_9 : decode cX4_of 9 = .ok (.iadd, 1) := by decide +kernel
theorem dX4_of_10 : decode cX4_of 10 = .ok (.iaload, 1) := by decide +kernel
theorem dX4_of_11 : decode cX4_of 11 = .ok (.ireturn, 1) := by decide +kernel
theorem dX4_add_0 : decode cX4_add 0 = .ok (.aload_n 0, 1) := by decide +kernel
theorem dX4_add_1 : decode cX4_add 1 = .ok (.iload_n 1, 1) := by decide +kernel
theorem dX4_add_2 : decode cX4_add 2 = .ok (.iconst 1, 1) := by decide +kernel
theorem dX4_add_3 : decode cX4_add 3 = .ok (.ldc 82, 2) := by decide +kernel
theorem dX4_add_5 : decode cX4_add 5 = .ok (.invokestatic 78, 3) := by decide +kernel
theorem dX4_add_8 : decode cX4_add 8 = .ok (.ifCond .eq 12, 3) := by decide +kernel
theorem dX4_add_11 : decode cX4_add 11 = .ok (.iload_n 2, 1) := by decide +kernel
theorem dX4_add_12 : decode cX4_add 12 = .ok (.iconst 0, 1) := by decide +kernel
theorem dX4_add_13 : decode cX4_add 13 = .ok (.iconst 2, 1) := by decide +kernel
theorem dX4_add_14 : decode cX4_add 14 = .ok (.invokestatic 78, 3) := by decide +kernel
theorem dX4_add_17 : decode cX4_add 17 = .ok (.ifCond .ne 7, 3) := by decide +kernel
theorem dX4_add_20 : decode cX4_add 20 = .ok (.iconst 1, 1) := by decide +kernel
theorem dX4_add_21 : decode cX4_add 21 = .ok (.goto 17, 3) := by decide +kernel
theorem dX4_add_24 : decode cX4_add 24 = .ok (.aload_n 0, 1) := by decide +kernel
theorem dX4_add_25 : decode cX4_add 25 = .ok (.getfield 75, 3) := by decide +kernel
theorem dX4_add_28 : decode cX4_add 28 = .ok (.bipush 20, 2) := by decide +kernel
theorem dX4_add_30 : decode cX4_add 30 = .ok (.if_icmp .ne 7, 3) := by decide +kernel
theorem dX4_add_33 : decode cX4_add 33 = .ok (.iconst 2, 1) := by decide +kernel
theorem dX4_add_34 : decode cX4_add 34 = .ok (.goto 4, 3) := by decide +kernel
theorem dX4_add_37 : decode cX4_add 37 = .ok (.iconst 0, 1) := by decide +kernel
theorem dX4_add_38 : decode cX4_add 38 = .ok (.putfield 72, 3) := by decide +kernel
theorem dX4_add_41 : decode cX4_add 41 = .ok (.aload_n 0, 1) := by decide +kernel
theorem dX4_add_42 : decode cX4_add 42 = .ok (.getfield 72, 3) := by decide +kernel
theorem dX4_add_45 : decode cX4_add 45 = .ok (.ifCond .eq 5, 3) := by decide +kernel
theorem dX4_add_48 : decode cX4_add 48 = .ok (.iconst 0, 1) := by decide +kernel
theorem dX4_add_49 : decode cX4_add 49 = .ok (.ireturn, 1) := by decide +kernel
theorem dX4_add_50 : decode cX4_add 50 = .ok (.aload_n 0, 1) := by decide +kernel
theorem dX4_add_51 : decode cX4_add 51 = .ok (.getfield 7, 3) := by decide +kernel
theorem dX4_add_54 : decode cX4_add 54 = .ok (.bipush 7, 2) := by decide +kernel
theorem dX4_add_56 : decode cX4_add 56 = .ok (.aload_n 0, 1) := by decide +kernel
theorem dX4_add_57 : decode cX4_add 57 = .ok (.getfield 75, 3) := by decide +kernel
theorem dX4_add_60 : decode cX4_add 60 = .ok (.imul, 1) := by decide +kernel
theorem dX4_add_61 : decode cX4_add 61 = .ok (.iconst 0, 1) := by decide +kernel
theorem dX4_add_62 : decode cX4_add 62 = .ok (.iadd, 1) := by decide +kernel
theorem dX4_add_63 : decode cX4_add 63 = .ok (.iload_n 1, 1) := by decide +kernel
theorem dX4_add_64 : decode cX4_add 64 = .ok (.iastore, 1) := by decide +kernel
theorem dX4_add_65 : decode cX4_add 65 = .ok (.aload_n 0, 1) := by decide +kernel
theorem dX4_add_66 : decode cX4_add 66 = .ok (.getfield 7, 3) := by decide +kernel
theorem dX4_add_69 : decode cX4_add 69 = .ok (.bipush 7, 2) := by decide +kernel
theorem dX4_add_71 : decode cX4_add 71 = .ok (.aload_n 0, 1) := by decide +kernel
theorem dX4_add_72 : decode cX4_add 72 = .ok (.getfield 75, 3) := by decide +kernel
theorem dX4_add_75 : decode cX4_add 75 = .ok (.imul, 1) := by decide +kernel
theorem dX4_add_76 : decode cX4_add 76 = .ok (.iconst 1, 1) := by decide +kernel
theorem dX4_add_77 : decode cX4_add 77 = .ok (.iadd, 1) := by decide +kernel
theorem dX4_add_78 : decode cX4_add 78 = .ok (.iload_n 2, 1) := by decide +kernel
theorem dX4_add_79 : decode cX4_add 79 = .ok (.iastore, 1) := by decide +kernel
theorem dX4_add_80 : decode cX4_add 80 = .ok (.aload_n 0, 1) := by decide +kernel
theorem dX4_add_81 : decode cX4_add 81 = .ok (.getfield 7, 3) := by decide +kernel
theorem dX4_add_84 : decode cX4_add 84 = .ok (.bipush 7, 2) := by decide +kernel
theorem dX4_add_86 : decode cX4_add 86 = .ok (.aload_n 0, 1) := by decide +kernel
theorem dX4_add_87 : decode cX4_add 87 = .ok (.getfield 75, 3) := by decide +kernel
theorem dX4_add_90 : decode cX4_add 90 = .ok (.imul, 1) := by decide +kernel
theorem dX4_add_91 : decode cX4_add 91 = .ok (.iconst 2, 1) := by decide +kernel
theorem dX4_add_92 : decode cX4_add 92 = .ok (.iadd, 1) := by decide +kernel
theorem dX4_add_93 : decode cX4_add 93 = .ok (.iconst (-1), 1) := by decide +kernel
theorem dX4_add_94 : decode cX4_add 94 = .ok (.iastore, 1) := by decide +kernel
theorem dX4_add_95 : decode cX4_add 95 = .ok (.aload_n 0, 1) := by decide +kernel
theorem dX4_add_96 : decode cX4_add 96 = .ok (.getfield 7, 3) := by decide +kernel
theorem dX4_add_99 : decode cX4_add 99 = .ok (.bipush 7, 2) := by decide +kernel
theorem dX4_add_101 : decode cX4_add 101 = .ok (.aload_n 0, 1) := by decide +kernel
theorem dX4_add_102 : decode cX4_add 102 = .ok (.getfield 75, 3) := by decide +kernel
theorem dX4_add_105 : decode cX4_add 105 = .ok (.imul, 1) := by decide +kernel
theorem dX4_add_106 : decode cX4_add 106 = .ok (.iconst 5, 1) := by decide +kernel
theorem dX4_add_107 : decode cX4_add 107 = .ok (.iadd, 1) := by decide +kernel
theorem dX4_add_108 : decode cX4_add 108 = .ok (.iconst (-1), 1) := by decide +kernel
theorem dX4_add_109 : decode cX4_add 109 = .ok (.iastore, 1) := by decide +kernel
theorem dX4_add_110 : decode cX4_add 110 = .ok (.aload_n 0, 1) := by decide +kernel
theorem dX4_add_111 : decode cX4_add 111 = .ok (.getfield 7, 3) := by decide +kernel
theorem dX4_add_114 : decode cX4_add 114 = .ok (.bipush 7, 2) := by decide +kernel
theorem dX4_add_116 : decode cX4_add 116 = .ok (.aload_n 0, 1) := by decide +kernel
theorem dX4_add_117 : decode cX4_add 117 = .ok (.getfield 75, 3) := by decide +kernel
theorem dX4_add_120 : decode cX4_add 120 = .ok (.imul, 1) := by decide +kernel
theorem dX4_add_121 : decode cX4_add 121 = .ok (.bipush 6, 2) := by decide +kernel
theorem dX4_add_123 : decode cX4_add 123 = .ok (.iadd, 1) := by decide +kernel
theorem dX4_add_124 : decode cX4_add 124 = .ok (.iconst (-1), 1) := by decide +kernel
theorem dX4_add_125 : decode cX4_add 125 = .ok (.iastore, 1) := by decide +kernel
theorem dX4_add_126 : decode cX4_add 126 = .ok (.aload_n 0, 1) := by decide +kernel
theorem dX4_add_127 : decode cX4_add 127 = .ok (.dup, 1) := by decide +kernel
theorem dX4_add_128 : decode cX4_add 128 = .ok (.getfield 75, 3) := by decide +kernel
theorem dX4_add_131 : decode cX4_add 131 = .ok (.iconst 1, 1) := by decide +kernel
theorem dX4_add_132 : decode cX4_add 132 = .ok (.iadd, 1) := by decide +kernel
theorem dX4_add_133 : decode cX4_add 133 = .ok (.putfield 75, 3) := by decide +kernel
theorem dX4_add_136 : decode cX4_add 136 = .ok (.aload_n 0, 1) := by decide +kernel
theorem dX4_add_137 : decode cX4_add 137 = .ok (.getfield 75, 3) := by decide +kernel
theorem dX4_add_140 : decode cX4_add 140 = .ok (.iconst 1, 1) := by decide +kernel
theorem dX4_add_141 : decode cX4_add 141 = .ok (.isub, 1) := by decide +kernel
theorem dX4_add_142 : decode cX4_add 142 = .ok (.ireturn, 1) := by decide +kernel
theorem dX4_isValue_0 : decode cX4_isValue 0 = .ok (.iload_n 0, 1) := by decide +kernel
theorem dX4_isValue_1 : decode cX4_isValue 1 = .ok (.tableswitch 82 0 6 #[43, 51, 58, 82, 82, 66, 74], 43) := by decide +kernel
theorem dX4_isValue_44 : decode cX4_isValue 44 = .ok (.iload_n 1, 1) := by decide +kernel
theorem dX4_isValue_45 : decode cX4_isValue 45 = .ok (.iconst 1, 1) := by decide +kernel
theorem dX4_isValue_46 : decode cX4_isValue 46 = .ok (.ldc 82, 2) := by decide +kernel
theorem dX4_isValue_48 : decode cX4_isValue 48 = .ok (.invokestatic 78, 3) := by decide +kernel
theorem dX4_isValue_51 : decode cX4_isValue 51 = .ok (.ireturn, 1) := by decide +kernel
theorem dX4_isValue_52 : decode cX4_isValue 52 = .ok (.iload_n 1, 1) := by decide +kernel
theorem dX4_isValue_53 : decode cX4_isValue 53 = .ok (.iconst 0, 1) := by decide +kernel
theorem dX4_isValue_54 : decode cX4_isValue 54 = .ok (.iconst 2, 1) := by decide +kernel
theorem dX4_isValue_55 : decode cX4_isValue 55 = .ok (.invokestatic 78, 3) := by decide +kernel
theorem dX4_isValue_58 : decode cX4_isValue 58 = .ok (.ireturn, 1) := by decide +kernel
theorem dX4_isValue_59 : decode cX4_isValue 59 = .ok (.iload_n 1, 1) := by decide +kernel
theorem dX4_isValue_60 : decode cX4_isValue 60 = .ok (.iconst (-1), 1) := by decide +kernel
theorem dX4_isValue_61 : decode cX4_isValue 61 = .ok (.bipush 9, 2) := by decide +kernel
theorem dX4_isValue_63 : decode cX4_isValue 63 = .ok (.invokestatic 78, 3) := by decide +kernel
theorem dX4_isValue_66 : decode cX4_isValue 66 = .ok (.ireturn, 1) := by decide +kernel
theorem dX4_isValue_67 : decode cX4_isValue 67 = .ok (.iload_n 1, 1) := by decide +kernel
theorem dX4_isValue_68 : decode cX4_isValue 68 = .ok (.iconst (-1), 1) := by decide +kernel
theorem dX4_isValue_69 : decode cX4_isValue 69 = .ok (.bipush 7, 2) := by decide +kernel
theorem dX4_isValue_71 : decode cX4_isValue 71 = .ok (.invokestatic 78, 3) := by decide +kernel
theorem dX4_isValue_74 : decode cX4_isValue 74 = .ok (.ireturn, 1) := by decide +kernel
theorem dX4_isValue_75 : decode cX4_isValue 75 = .ok (.iload_n 1, 1) := by decide +kernel
theorem dX4_isValue_76 : decode cX4_isValue 76 = .ok (.iconst (-1), 1) := by decide +kernel
theorem dX4_isValue_77 : decode cX4_isValue 77 = .ok (.bipush 99, 2) := by decide +kernel
theorem dX4_isValue_79 : decode cX4_isValue 79 = .ok (.invokestatic 78, 3) := by decide +kernel
theorem dX4_isValue_82 : decode cX4_isValue 82 = .ok (.ireturn, 1) := by decide +kernel
theorem dX4_isValue_83 : decode cX4_isValue 83 = .ok (.iload_n 1, 1) := by decide +kernel
theorem dX4_isValue_84 : decode cX4_isValue 84 = .ok (.iconst 0, 1) := by decide +kernel
theorem dX4_isValue_85 : decode cX4_isValue 85 = .ok (.iconst 1, 1) := by decide +kernel
theorem dX4_isValue_86 : decode cX4_isValue 86 = .ok (.invokestatic 78, 3) := by decide +kernel
theorem dX4_isValue_89 : decode cX4_isValue 89 = .ok (.ireturn, 1) := by decide +kernel
theorem dX4_set_0 : decode cX4_set 0 = .ok (.aload_n 0, 1) := by decide +kernel
theorem dX4_set_1 : decode cX4_set 1 = .ok (.aload_n 0, 1) := by decide +kernel
theorem dX4_set_2 : decode cX4_set 2 = .ok (.iload_n 1, 1) := by decide +kernel
theorem dX4_set_3 : decode cX4_set 3 = .ok (.invokevirtual 83, 3) := by decide +kernel
theorem dX4_set_6 : decode cX4_set 6 = .ok (.ifCond .ne 7, 3) := by decide +kernel
theorem dX4_set_9 : decode cX4_set 9 = .ok (.iconst 1, 1) := by decide +kernel
theorem dX4_set_10 : decode cX4_set 10 = .ok (.goto 26, 3) := by decide +kernel
theorem dX4_set_13 : decode cX4_set 13 = .ok (.iload_n 2, 1) := by decide +kernel
theorem dX4_set_14 : decode cX4_set 14 = .ok (.iconst 0, 1) := by decide +kernel
theorem dX4_set_15 : decode cX4_set 15 = .ok (.bipush 6, 2) := by decide +kernel
theorem dX4_set_17 : decode cX4_set 17 = .ok (.invokestatic 78, 3) := by decide +kernel
theorem dX4_set_20 : decode cX4_set 20 = .ok (.ifCond .eq 11, 3) := by decide +kernel
theorem dX4_set_23 : decode cX4_set 23 = .ok (.iload_n 2, 1) := by decide +kernel
theorem dX4_set_24 : decode cX4_set 24 = .ok (.iload_n 3, 1) := by decide +kernel
theorem dX4_set_25 : decode cX4_set 25 = .ok (.invokestatic 87, 3) := by decide +kernel
theorem dX4_set_28 : decode cX4_set 28 = .ok (.ifCond .ne 7, 3) := by decide +kernel
theorem dX4_set_31 : decode cX4_set 31 = .ok (.iconst 2, 1) := by decide +kernel
theorem dX4_set_32 : decode cX4_set 32 = .ok (.goto 4, 3) := by decide +kernel
theorem dX4_set_35 : decode cX4_set 35 = .ok (.iconst 0, 1) := by decide +kernel
theorem dX4_set_36 : decode cX4_set 36 = .ok (.putfield 72, 3) := by decide +kernel
theorem dX4_set_39 : decode cX4_set 39 = .ok (.aload_n 0, 1) := by decide +kernel
theorem dX4_set_40 : decode cX4_set 40 = .ok (.getfield 72, 3) := by decide +kernel
theorem dX4_set_43 : decode cX4_set 43 = .ok (.ifCond .eq 5, 3) := by decide +kernel
theorem dX4_set_46 : decode cX4_set 46 = .ok (.iconst 0, 1) := by decide +kernel
theorem dX4_set_47 : decode cX4_set 47 = .ok (.ireturn, 1) := by decide +kernel
theorem dX4_set_48 : decode cX4_set 48 = .ok (.aload_n 0, 1) := by decide +kernel
theorem dX4_set_49 : decode cX4_set 49 = .ok (.iload_n 1, 1) := by decide +kernel
theorem dX4_set_50 : decode cX4_set 50 = .ok (.iload_n 2, 1) := by decide +kernel
theorem dX4_set_51 : decode cX4_set 51 = .ok (.invokevirtual 91, 3) := by decide +kernel
theorem dX4_set_54 : decode cX4_set 54 = .ok (.istore 4, 2) := by decide +kernel
theorem dX4_set_56 : decode cX4_set 56 = .ok (.aload_n 0, 1) := by decide +kernel
theorem dX4_set_57 : decode cX4_set 57 = .ok (.getfield 7, 3) := by decide +kernel
theorem dX4_set_60 : decode cX4_set 60 = .ok (.bipush 7, 2) := by decide +kernel
theorem dX4_set_62 : decode cX4_set 62 = .ok (.iload_n 1, 1) := by decide +kernel
theorem dX4_set_63 : decode cX4_set 63 = .ok (.imul, 1) := by decide +kernel
theorem dX4_set_64 : decode cX4_set 64 = .ok (.iload_n 2, 1) := by decide +kernel
theorem dX4_set_65 : decode cX4_set 65 = .ok (.iadd, 1) := by decide +kernel
theorem dX4_set_66 : decode cX4_set 66 = .ok (.iload_n 3, 1) := by decide +kernel
theorem dX4_set_67 : decode cX4_set 67 = .ok (.iastore, 1) := by decide +kernel
theorem dX4_set_68 : decode cX4_set 68 = .ok (.iload 4, 2) := by decide +kernel
theorem dX4_set_70 : decode cX4_set 70 = .ok (.ireturn, 1) := by decide +kernel
theorem dX4_property_0 : decode cX4_property 0 = .ok (.aload_n 0, 1) := by decide +kernel
theorem dX4_property_1 : decode cX4_property 1 = .ok (.aload_n 0, 1) := by decide +kernel
theorem dX4_property_2 : decode cX4_property 2 = .ok (.iload_n 1, 1) := by decide +kernel
theorem dX4_property_3 : decode cX4_property 3 = .ok (.invokevirtual 83, 3) := by decide +kernel
theorem dX4_property_6 : decode cX4_property 6 = .ok (.ifCond .ne 7, 3) := by decide +kernel
theorem dX4_property_9 : decode cX4_property 9 = .ok (.iconst 1, 1) := by decide +kernel
theorem dX4_property_10 : decode cX4_property 10 = .ok (.goto 18, 3) := by decide +kernel
theorem dX4_property_13 : decode cX4_property 13 = .ok (.iload_n 2, 1) := by decide +kernel
theorem dX4_property_14 : decode cX4_property 14 = .ok (.iconst 0, 1) := by decide +kernel
theorem dX4_property_15 : decode cX4_property 15 = .ok (.bipush 6, 2) := by decide +kernel
theorem dX4_property_17 : decode cX4_property 17 = .ok (.invokestatic 78, 3) := by decide +kernel
theorem dX4_property_20 : decode cX4_property 20 = .ok (.ifCond .ne 7, 3) := by decide +kernel
theorem dX4_property_23 : decode cX4_property 23 = .ok (.iconst 2, 1) := by decide +kernel
theorem dX4_property_24 : decode cX4_property 24 = .ok (.goto 4, 3) := by decide +kernel
theorem dX4_property_27 : decode cX4_property 27 = .ok (.iconst 0, 1) := by decide +kernel
theorem dX4_property_28 : decode cX4_property 28 = .ok (.putfield 72, 3) := by decide +kernel
theorem dX4_property_31 : decode cX4_property 31 = .ok (.aload_n 0, 1) := by decide +kernel
theorem dX4_property_32 : decode cX4_property 32 = .ok (.getfield 72, 3) := by decide +kernel
theorem dX4_property_35 : decode cX4_property 35 = .ok (.ifCond .eq 7, 3) := by decide +kernel
theorem dX4_property_38 : decode cX4_property 38 = .ok (.iconst 0, 1) := by decide +kernel
theorem dX4_property_39 : decode cX4_property 39 = .ok (.goto 9, 3) := by decide +kernel
theorem dX4_property_42 : decode cX4_property 42 = .ok (.aload_n 0, 1) := by decide +kernel
theorem dX4_property_43 : decode cX4_property 43 = .ok (.iload_n 1, 1) := by decide +kernel
theorem dX4_property_44 : decode cX4_property 44 = .ok (.iload_n 2, 1) := by decide +kernel
theorem dX4_property_45 : decode cX4_property 45 = .ok (.invokevirtual 91, 3) := by decide +kernel
theorem dX4_property_48 : decode cX4_property 48 = .ok (.ireturn, 1) := by decide +kernel
theorem dX4_isAsked_0 : decode cX4_isAsked 0 = .ok (.iload_n 0, 1) := by decide +kernel
theorem dX4_isAsked_1 : decode cX4_isAsked 1 = .ok (.iconst 0, 1) := by decide +kernel
theorem dX4_isAsked_2 : decode cX4_isAsked 2 = .ok (.bipush 15, 2) := by decide +kernel
theorem dX4_isAsked_4 : decode cX4_isAsked 4 = .ok (.invokestatic 78, 3) := by decide +kernel
theorem dX4_isAsked_7 : decode cX4_isAsked 7 = .ok (.ifCond .eq 17, 3) := by decide +kernel
theorem dX4_isAsked_10 : decode cX4_isAsked 10 = .ok (.iload_n 1, 1) := by decide +kernel
theorem dX4_isAsked_11 : decode cX4_isAsked 11 = .ok (.iconst (-1), 1) := by decide +kernel
theorem dX4_isAsked_12 : decode cX4_isAsked 12 = .ok (.bipush 9, 2) := by decide +kernel
theorem dX4_isAsked_14 : decode cX4_isAsked 14 = .ok (.invokestatic 78, 3) := by decide +kernel
theorem dX4_isAsked_17 : decode cX4_isAsked 17 = .ok (.ifCond .eq 7, 3) := by decide +kernel
theorem dX4_isAsked_20 : decode cX4_isAsked 20 = .ok (.iconst 1, 1) := by decide +kernel
theorem dX4_isAsked_21 : decode cX4_isAsked 21 = .ok (.goto 4, 3) := by decide +kernel
theorem dX4_isAsked_24 : decode cX4_isAsked 24 = .ok (.iconst 0, 1) := by decide +kernel
theorem dX4_isAsked_25 : decode cX4_isAsked 25 = .ok (.ireturn, 1) := by decide +kernel
theorem dX4_dependAt_0 : decode cX4_dependAt 0 = .ok (.aload_n 0, 1) := by decide +kernel
theorem dX4_dependAt_1 : decode cX4_dependAt 1 = .ok (.getfield 16, 3) := by decide +kernel
theorem dX4_dependAt_4 : decode cX4_dependAt 4 = .ok (.bipush 18, 2) := by decide +kernel
theorem dX4_dependAt_6 : decode cX4_dependAt 6 = .ok (.iload_n 1, 1) := by decide +kernel
theorem dX4_dependAt_7 : decode cX4_dependAt 7 = .ok (.imul, 1) := by decide +kernel
theorem dX4_dependAt_8 : decode cX4_dependAt 8 = .ok (.iconst 3, 1) := by decide +kernel
theorem dX4_dependAt_9 : decode cX4_dependAt 9 = .ok (.iload_n 2, 1) := by decide +kernel
theorem dX4_dependAt_10 : decode cX4_dependAt 10 = .ok (.imul, 1) := by decide +kernel
theorem dX4_dependAt_11 : decode cX4_dependAt 11 = .ok (.iadd, 1) := by decide +kernel
theorem dX4_dependAt_12 : decode cX4_dependAt 12 = .ok (.iload_n 3, 1) := by decide +kernel
theorem dX4_dependAt_13 : decode cX4_dependAt 13 = .ok (.iadd, 1) := by decide +kernel
theorem dX4_dependAt_14 : decode cX4_dependAt 14 = .ok (.iaload, 1) := by decide +kernel
theorem dX4_dependAt_15 : decode cX4_dependAt 15 = .ok (.ireturn, 1) := by decide +kernel
theorem dX4_depend_0 : decode cX4_depend 0 = .ok (.aload_n 0, 1) := by decide +kernel
theorem dX4_depend_1 : decode cX4_depend 1 = .ok (.aload_n 0, 1) := by decide +kernel
theorem dX4_depend_2 : decode cX4_depend 2 = .ok (.iload_n 1, 1) := by decide +kernel
theorem dX4_depend_3 : decode cX4_depend 3 = .ok (.invokevirtual 83, 3) := by decide +kernel
theorem dX4_depend_6 : decode cX4_depend 6 = .ok (.ifCond .ne 7, 3) := by decide +kernel
theorem dX4_depend_9 : decode cX4_depend 9 = .ok (.iconst 1, 1) := by decide +kernel
theorem dX4_depend_10 : decode cX4_depend 10 = .ok (.goto 41, 3) := by decide +kernel
theorem dX4_depend_13 : decode cX4_depend 13 = .ok (.iload_n 2, 1) := by decide +kernel
theorem dX4_depend_14 : decode cX4_depend 14 = .ok (.iload_n 3, 1) := by decide +kernel
theorem dX4_depend_15 : decode cX4_depend 15 = .ok (.invokestatic 95, 3) := by decide +kernel
theorem dX4_depend_18 : decode cX4_depend 18 = .ok (.ifCond .eq 13, 3) := by decide +kernel
theorem dX4_depend_21 : decode cX4_depend 21 = .ok (.iload 4, 2) := by decide +kernel
theorem dX4_depend_23 : decode cX4_depend 23 = .ok (.iconst 0, 1) := by decide +kernel
theorem dX4_depend_24 : decode cX4_depend 24 = .ok (.iconst 3, 1) := by decide +kernel
theorem dX4_depend_25 : decode cX4_depend 25 = .ok (.invokestatic 78, 3) := by decide +kernel
theorem dX4_depend_28 : decode cX4_depend 28 = .ok (.ifCond .ne 7, 3) := by decide +kernel
theorem dX4_depend_31 : decode cX4_depend 31 = .ok (.iconst 2, 1) := by decide +kernel
theorem dX4_depend_32 : decode cX4_depend 32 = .ok (.goto 19, 3) := by decide +kernel
theorem dX4_depend_35 : decode cX4_depend 35 = .ok (.aload_n 0, 1) := by decide +kernel
theorem dX4_depend_36 : decode cX4_depend 36 = .ok (.getfield 13, 3) := by decide +kernel
theorem dX4_depend_39 : decode cX4_depend 39 = .ok (.iload_n 1, 1) := by decide +kernel
theorem dX4_depend_40 : decode cX4_depend 40 = .ok (.iaload, 1) := by decide +kernel
theorem dX4_depend_41 : decode cX4_depend 41 = .ok (.bipush 6, 2) := by decide +kernel
theorem dX4_depend_43 : decode cX4_depend 43 = .ok (.if_icmp .ne 7, 3) := by decide +kernel
theorem dX4_depend_46 : decode cX4_depend 46 = .ok (.iconst 3, 1) := by decide +kernel
theorem dX4_depend_47 : decode cX4_depend 47 = .ok (.goto 4, 3) := by decide +kernel
theorem dX4_depend_50 : decode cX4_depend 50 = .ok (.iconst 0, 1) := by decide +kernel
theorem dX4_depend_51 : decode cX4_depend 51 = .ok (.putfield 72, 3) := by decide +kernel
theorem dX4_depend_54 : decode cX4_depend 54 = .ok (.aload_n 0, 1) := by decide +kernel
theorem dX4_depend_55 : decode cX4_depend 55 = .ok (.getfield 72, 3) := by decide +kernel
theorem dX4_depend_58 : decode cX4_depend 58 = .ok (.ifCond .eq 5, 3) := by decide +kernel
theorem dX4_depend_61 : decode cX4_depend 61 = .ok (.iconst 0, 1) := by decide +kernel
theorem dX4_depend_62 : decode cX4_depend 62 = .ok (.ireturn, 1) := by decide +kernel
theorem dX4_depend_63 : decode cX4_depend 63 = .ok (.bipush 18, 2) := by decide +kernel
theorem dX4_depend_65 : decode cX4_depend 65 = .ok (.iload_n 1, 1) := by decide +kernel
theorem dX4_depend_66 : decode cX4_depend 66 = .ok (.imul, 1) := by decide +kernel
theorem dX4_depend_67 : decode cX4_depend 67 = .ok (.iconst 3, 1) := by decide +kernel
theorem dX4_depend_68 : decode cX4_depend 68 = .ok (.aload_n 0, 1) := by decide +kernel
theorem dX4_depend_69 : decode cX4_depend 69 = .ok (.getfield 13, 3) := by decide +kernel
theorem dX4_depend_72 : decode cX4_depend 72 = .ok (.iload_n 1, 1) := by decide +kernel
theorem dX4_depend_73 : decode cX4_depend 73 = .ok (.iaload, 1) := by decide +kernel
theorem dX4_depend_74 : decode cX4_depend 74 = .ok (.imul, 1) := by decide +kernel
theorem dX4_depend_75 : decode cX4_depend 75 = .ok (.iadd, 1) := by decide +kernel
theorem dX4_depend_76 : decode cX4_depend 76 = .ok (.istore 5, 2) := by decide +kernel
theorem dX4_depend_78 : decode cX4_depend 78 = .ok (.aload_n 0, 1) := by decide +kernel
theorem dX4_depend_79 : decode cX4_depend 79 = .ok (.getfield 16, 3) := by decide +kernel
theorem dX4_depend_82 : decode cX4_depend 82 = .ok (.iload 5, 2) := by decide +kernel
theorem dX4_depend_84 : decode cX4_depend 84 = .ok (.iload_n 2, 1) := by decide +kernel
theorem dX4_depend_85 : decode cX4_depend 85 = .ok (.iastore, 1) := by decide +kernel
theorem dX4_depend_86 : decode cX4_depend 86 = .ok (.aload_n 0, 1) := by decide +kernel
theorem dX4_depend_87 : decode cX4_depend 87 = .ok (.getfield 16, 3) := by decide +kernel
theorem dX4_depend_90 : decode cX4_depend 90 = .ok (.iload 5, 2) := by decide +kernel
theorem dX4_depend_92 : decode cX4_depend 92 = .ok (.iconst 1, 1) := by decide +kernel
theorem dX4_depend_93 : decode cX4_depend 93 = .ok (.iadd, 1) := by decide +kernel
theorem dX4_depend_94 : decode cX4_depend 94 = .ok (.iload_n 3, 1) := by decide +kernel
theorem dX4_depend_95 : decode cX4_depend 95 = .ok (.iastore, 1) := by decide +kernel
theorem dX4_depend_96 : decode cX4_depend 96 = .ok (.aload_n 0, 1) := by decide +kernel
theorem dX4_depend_97 : decode cX4_depend 97 = .ok (.getfield 16, 3) := by decide +kernel
theorem dX4_depend_100 : decode cX4_depend 100 = .ok (.iload 5, 2) := by decide +kernel
theorem dX4_depend_102 : decode cX4_depend 102 = .ok (.iconst 2, 1) := by decide +kernel
theorem dX4_depend_103 : decode cX4_depend 103 = .ok (.iadd, 1) := by decide +kernel
theorem dX4_depend_104 : decode cX4_depend 104 = .ok (.iload 4, 2) := by decide +kernel
theorem dX4_depend_106 : decode cX4_depend 106 = .ok (.iastore, 1) := by decide +kernel
theorem dX4_depend_107 : decode cX4_depend 107 = .ok (.aload_n 0, 1) := by decide +kernel
theorem dX4_depend_108 : decode cX4_depend 108 = .ok (.getfield 13, 3) := by decide +kernel
theorem dX4_depend_111 : decode cX4_depend 111 = .ok (.iload_n 1, 1) := by decide +kernel
theorem dX4_depend_112 : decode cX4_depend 112 = .ok (.dup2, 1) := by decide +kernel
theorem dX4_depend_113 : decode cX4_depend 113 = .ok (.iaload, 1) := by decide +kernel
theorem dX4_depend_114 : decode cX4_depend 114 = .ok (.iconst 1, 1) := by decide +kernel
theorem dX4_depend_115 : decode cX4_depend 115 = .ok (.iadd, 1) := by decide +kernel
theorem dX4_depend_116 : decode cX4_depend 116 = .ok (.iastore, 1) := by decide +kernel
theorem dX4_depend_117 : decode cX4_depend 117 = .ok (.aload_n 0, 1) := by decide +kernel
theorem dX4_depend_118 : decode cX4_depend 118 = .ok (.getfield 13, 3) := by decide +kernel
theorem dX4_depend_121 : decode cX4_depend 121 = .ok (.iload_n 1, 1) := by decide +kernel
theorem dX4_depend_122 : decode cX4_depend 122 = .ok (.iaload, 1) := by decide +kernel
theorem dX4_depend_123 : decode cX4_depend 123 = .ok (.iconst 1, 1) := by decide +kernel
theorem dX4_depend_124 : decode cX4_depend 124 = .ok (.isub, 1) := by decide +kernel
theorem dX4_depend_125 : decode cX4_depend 125 = .ok (.ireturn, 1) := by decide +kernel
theorem dX4_clear_0 : decode cX4_clear 0 = .ok (.aload_n 0, 1) := by decide +kernel
theorem dX4_clear_1 : decode cX4_clear 1 = .ok (.aload_n 0, 1) := by decide +kernel
theorem dX4_clear_2 : decode cX4_clear 2 = .ok (.iload_n 1, 1) := by decide +kernel
theorem dX4_clear_3 : decode cX4_clear 3 = .ok (.invokevirtual 83, 3) := by decide +kernel
theorem dX4_clear_6 : decode cX4_clear 6 = .ok (.ifCond .eq 7, 3) := by decide +kernel
theorem dX4_clear_9 : decode cX4_clear 9 = .ok (.iconst 0, 1) := by decide +kernel
theorem dX4_clear_10 : decode cX4_clear 10 = .ok (.goto 4, 3) := by decide +kernel
theorem dX4_clear_13 : decode cX4_clear 13 = .ok (.iconst 1, 1) := by decide +kernel
theorem dX4_clear_14 : decode cX4_clear 14 = .ok (.putfield 72, 3) := by decide +kernel
theorem dX4_clear_17 : decode cX4_clear 17 = .ok (.aload_n 0, 1) := by decide +kernel
theorem dX4_clear_18 : decode cX4_clear 18 = .ok (.getfield 72, 3) := by decide +kernel
theorem dX4_clear_21 : decode cX4_clear 21 = .ok (.ifCond .eq 5, 3) := by decide +kernel
theorem dX4_clear_24 : decode cX4_clear 24 = .ok (.iconst 0, 1) := by decide +kernel
theorem dX4_clear_25 : decode cX4_clear 25 = .ok (.ireturn, 1) := by decide +kernel
theorem dX4_clear_26 : decode cX4_clear 26 = .ok (.aload_n 0, 1) := by decide +kernel
theorem dX4_clear_27 : decode cX4_clear 27 = .ok (.getfield 13, 3) := by decide +kernel
theorem dX4_clear_30 : decode cX4_clear 30 = .ok (.iload_n 1, 1) := by decide +kernel
theorem dX4_clear_31 : decode cX4_clear 31 = .ok (.iaload, 1) := by decide +kernel
theorem dX4_clear_32 : decode cX4_clear 32 = .ok (.istore_n 2, 1) := by decide +kernel
theorem dX4_clear_33 : decode cX4_clear 33 = .ok (.aload_n 0, 1) := by decide +kernel
theorem dX4_clear_34 : decode cX4_clear 34 = .ok (.getfield 13, 3) := by decide +kernel
theorem dX4_clear_37 : decode cX4_clear 37 = .ok (.iload_n 1, 1) := by decide +kernel
theorem dX4_clear_38 : decode cX4_clear 38 = .ok (.iconst 0, 1) := by decide +kernel
theorem dX4_clear_39 : decode cX4_clear 39 = .ok (.iastore, 1) := by decide +kernel
theorem dX4_clear_40 : decode cX4_clear 40 = .ok (.iload_n 2, 1) := by decide +kernel
theorem dX4_clear_41 : decode cX4_clear 41 = .ok (.ireturn, 1) := by decide +kernel
theorem dX4_dependency_0 : decode cX4_dependency 0 = .ok (.aload_n 0, 1) := by decide +kernel
theorem dX4_dependency_1 : decode cX4_dependency 1 = .ok (.aload_n 0, 1) := by decide +kernel
theorem dX4_dependency_2 : decode cX4_dependency 2 = .ok (.iload_n 1, 1) := by decide +kernel
theorem dX4_dependency_3 : decode cX4_dependency 3 = .ok (.invokevirtual 83, 3) := by decide +kernel
theorem dX4_dependency_6 : decode cX4_dependency 6 = .ok (.ifCond .ne 7, 3) := by decide +kernel
theorem dX4_dependency_9 : decode cX4_dependency 9 = .ok (.iconst 1, 1) := by decide +kernel
theorem dX4_dependency_10 : decode cX4_dependency 10 = .ok (.goto 17, 3) := by decide +kernel
theorem dX4_dependency_13 : decode cX4_dependency 13 = .ok (.iload_n 3, 1) := by decide +kernel
theorem dX4_dependency_14 : decode cX4_dependency 14 = .ok (.iconst 0, 1) := by decide +kernel
theorem dX4_dependency_15 : decode cX4_dependency 15 = .ok (.iconst 2, 1) := by decide +kernel
theorem dX4_dependency_16 : decode cX4_dependency 16 = .ok (.invokestatic 78, 3) := by decide +kernel
theorem dX4_dependency_19 : decode cX4_dependency 19 = .ok (.ifCond .ne 7, 3) := by decide +kernel
theorem dX4_dependency_22 : decode cX4_dependency 22 = .ok (.iconst 2, 1) := by decide +kernel
theorem dX4_dependency_23 : decode cX4_dependency 23 = .ok (.goto 4, 3) := by decide +kernel
theorem dX4_dependency_26 : decode cX4_dependency 26 = .ok (.iconst 0, 1) := by decide +kernel
theorem dX4_dependency_27 : decode cX4_dependency 27 = .ok (.putfield 72, 3) := by decide +kernel
theorem dX4_dependency_30 : decode cX4_dependency 30 = .ok (.aload_n 0, 1) := by decide +kernel
theorem dX4_dependency_31 : decode cX4_dependency 31 = .ok (.getfield 72, 3) := by decide +kernel
theorem dX4_dependency_34 : decode cX4_dependency 34 = .ok (.ifCond .eq 5, 3) := by decide +kernel
theorem dX4_dependency_37 : decode cX4_dependency 37 = .ok (.iconst 0, 1) := by decide +kernel
theorem dX4_dependency_38 : decode cX4_dependency 38 = .ok (.ireturn, 1) := by decide +kernel
theorem dX4_dependency_39 : decode cX4_dependency 39 = .ok (.iload_n 2, 1) := by decide +kernel
theorem dX4_dependency_40 : decode cX4_dependency 40 = .ok (.iconst (-1), 1) := by decide +kernel
theorem dX4_dependency_41 : decode cX4_dependency 41 = .ok (.if_icmp .ne 12, 3) := by decide +kernel
theorem dX4_dependency_44 : decode cX4_dependency 44 = .ok (.aload_n 0, 1) := by decide +kernel
theorem dX4_dependency_45 : decode cX4_dependency 45 = .ok (.getfield 13, 3) := by decide +kernel
theorem dX4_dependency_48 : decode cX4_dependency 48 = .ok (.iload_n 1, 1) := by decide +kernel
theorem dX4_dependency_49 : decode cX4_dependency 49 = .ok (.iaload, 1) := by decide +kernel
theorem dX4_dependency_50 : decode cX4_dependency 50 = .ok (.goto 30, 3) := by decide +kernel
theorem dX4_dependency_53 : decode cX4_dependency 53 = .ok (.iload_n 2, 1) := by decide +kernel
theorem dX4_dependency_54 : decode cX4_dependency 54 = .ok (.iconst 0, 1) := by decide +kernel
theorem dX4_dependency_55 : decode cX4_dependency 55 = .ok (.aload_n 0, 1) := by decide +kernel
theorem dX4_dependency_56 : decode cX4_dependency 56 = .ok (.getfield 13, 3) := by decide +kernel
theorem dX4_dependency_59 : decode cX4_dependency 59 = .ok (.iload_n 1, 1) := by decide +kernel
theorem dX4_dependency_60 : decode cX4_dependency 60 = .ok (.iaload, 1) := by decide +kernel
theorem dX4_dependency_61 : decode cX4_dependency 61 = .ok (.iconst 1, 1) := by decide +kernel
theorem dX4_dependency_62 : decode cX4_dependency 62 = .ok (.isub, 1) := by decide +kernel
theorem dX4_dependency_63 : decode cX4_dependency 63 = .ok (.invokestatic 78, 3) := by decide +kernel
theorem dX4_dependency_66 : decode cX4_dependency 66 = .ok (.ifCond .eq 13, 3) := by decide +kernel
theorem dX4_dependency_69 : decode cX4_dependency 69 = .ok (.aload_n 0, 1) := by decide +kernel
theorem dX4_dependency_70 : decode cX4_dependency 70 = .ok (.iload_n 1, 1) := by decide +kernel
theorem dX4_dependency_71 : decode cX4_dependency 71 = .ok (.iload_n 2, 1) := by decide +kernel
theorem dX4_dependency_72 : decode cX4_dependency 72 = .ok (.iload_n 3, 1) := by decide +kernel
theorem dX4_dependency_73 : decode cX4_dependency 73 = .ok (.invokevirtual 98, 3) := by decide +kernel
theorem dX4_dependency_76 : decode cX4_dependency 76 = .ok (.goto 4, 3) := by decide +kernel
theorem dX4_dependency_79 : decode cX4_dependency 79 = .ok (.iconst (-1), 1) := by decide +kernel
theorem dX4_dependency_80 : decode cX4_dependency 80 = .ok (.ireturn, 1) := by decide +kernel
theorem dX4_profile_0 : decode cX4_profile 0 = .ok (.aload_n 0, 1) := by decide +kernel
theorem dX4_profile_1 : decode cX4_profile 1 = .ok (.iload_n 1, 1) := by decide +kernel
theorem dX4_profile_2 : decode cX4_profile 2 = .ok (.iconst 0, 1) := by decide +kernel
theorem dX4_profile_3 : decode cX4_profile 3 = .ok (.bipush 7, 2) := by decide +kernel
theorem dX4_profile_5 : decode cX4_profile 5 = .ok (.invokestatic 78, 3) := by decide +kernel
theorem dX4_profile_8 : decode cX4_profile 8 = .ok (.ifCond .eq 7, 3) := by decide +kernel
theorem dX4_profile_11 : decode cX4_profile 11 = .ok (.iconst 0, 1) := by decide +kernel
theorem dX4_profile_12 : decode cX4_profile 12 = .ok (.goto 4, 3) := by decide +kernel
theorem dX4_profile_15 : decode cX4_profile 15 = .ok (.iconst 1, 1) := by decide +kernel
theorem dX4_profile_16 : decode cX4_profile 16 = .ok (.putfield 72, 3) := by decide +kernel
theorem dX4_profile_19 : decode cX4_profile 19 = .ok (.aload_n 0, 1) := by decide +kernel
theorem dX4_profile_20 : decode cX4_profile 20 = .ok (.getfield 72, 3) := by decide +kernel
theorem dX4_profile_23 : decode cX4_profile 23 = .ok (.ifCond .eq 5, 3) := by decide +kernel
theorem dX4_profile_26 : decode cX4_profile 26 = .ok (.iconst 0, 1) := by decide +kernel
theorem dX4_profile_27 : decode cX4_profile 27 = .ok (.ireturn, 1) := by decide +kernel
theorem dX4_profile_28 : decode cX4_profile 28 = .ok (.aload_n 0, 1) := by decide +kernel
theorem dX4_profile_29 : decode cX4_profile 29 = .ok (.getfield 102, 3) := by decide +kernel
theorem dX4_profile_32 : decode cX4_profile 32 = .ok (.iload_n 1, 1) := by decide +kernel
theorem dX4_profile_33 : decode cX4_profile 33 = .ok (.ishr, 1) := by decide +kernel
theorem dX4_profile_34 : decode cX4_profile 34 = .ok (.iconst 1, 1) := by decide +kernel
theorem dX4_profile_35 : decode cX4_profile 35 = .ok (.iand, 1) := by decide +kernel
theorem dX4_profile_36 : decode cX4_profile 36 = .ok (.iconst 1, 1) := by decide +kernel
theorem dX4_profile_37 : decode cX4_profile 37 = .ok (.if_icmp .ne 7, 3) := by decide +kernel
theorem dX4_profile_40 : decode cX4_profile 40 = .ok (.iconst 1, 1) := by decide +kernel
theorem dX4_profile_41 : decode cX4_profile 41 = .ok (.goto 4, 3) := by decide +kernel
theorem dX4_profile_44 : decode cX4_profile 44 = .ok (.iconst 0, 1) := by decide +kernel
theorem dX4_profile_45 : decode cX4_profile 45 = .ok (.istore_n 3, 1) := by decide +kernel
theorem dX4_profile_46 : decode cX4_profile 46 = .ok (.aload_n 0, 1) := by decide +kernel
theorem dX4_profile_47 : decode cX4_profile 47 = .ok (.iload_n 2, 1) := by decide +kernel
theorem dX4_profile_48 : decode cX4_profile 48 = .ok (.ifCond .eq 14, 3) := by decide +kernel
theorem dX4_profile_51 : decode cX4_profile 51 = .ok (.aload_n 0, 1) := by decide +kernel
theorem dX4_profile_52 : decode cX4_profile 52 = .ok (.getfield 102, 3) := by decide +kernel
theorem dX4_profile_55 : decode cX4_profile 55 = .ok (.iconst 1, 1) := by decide +kernel
theorem dX4_profile_56 : decode cX4_profile 56 = .ok (.iload_n 1, 1) := by decide +kernel
theorem dX4_profile_57 : decode cX4_profile 57 = .ok (.ishl, 1) := by decide +kernel
theorem dX4_profile_58 : decode cX4_profile 58 = .ok (.ior, 1) := by decide +kernel
theorem dX4_profile_59 : decode cX4_profile 59 = .ok (.goto 13, 3) := by decide +kernel
theorem dX4_profile_62 : decode cX4_profile 62 = .ok (.aload_n 0, 1) := by decide +kernel
theorem dX4_profile_63 : decode cX4_profile 63 = .ok (.getfield 102, 3) := by decide +kernel
theorem dX4_profile_66 : decode cX4_profile 66 = .ok (.iconst 1, 1) := by decide +kernel
theorem dX4_profile_67 : decode cX4_profile 67 = .ok (.iload_n 1, 1) := by decide +kernel
theorem dX4_profile_68 : decode cX4_profile 68 = .ok (.ishl, 1) := by decide +kernel
theorem dX4_profile_69 : decode cX4_profile 69 = .ok (.iconst (-1), 1) := by decide +kernel
theorem dX4_profile_70 : decode cX4_profile 70 = .ok (.ixor, 1) := by decide +kernel
theorem dX4_profile_71 : decode cX4_profile 71 = .ok (.iand, 1) := by decide +kernel
theorem dX4_profile_72 : decode cX4_profile 72 = .ok (.putfield 102, 3) := by decide +kernel
theorem dX4_profile_75 : decode cX4_profile 75 = .ok (.iload_n 3, 1) := by decide +kernel
theorem dX4_profile_76 : decode cX4_profile 76 = .ok (.ireturn, 1) := by decide +kernel
theorem dX4_components_0 : decode cX4_components 0 = .ok (.aload_n 0, 1) := by decide +kernel
theorem dX4_components_1 : decode cX4_components 1 = .ok (.iconst 0, 1) := by decide +kernel
theorem dX4_components_2 : decode cX4_components 2 = .ok (.putfield 72, 3) := by decide +kernel
theorem dX4_components_5 : decode cX4_components 5 = .ok (.aload_n 0, 1) := by decide +kernel
theorem dX4_components_6 : decode cX4_components 6 = .ok (.getfield 75, 3) := by decide +kernel
theorem dX4_components_9 : decode cX4_components 9 = .ok (.ireturn, 1) := by decide +kernel
theorem dX4_isActive_0 : decode cX4_isActive 0 = .ok (.aload_n 0, 1) := by decide +kernel
theorem dX4_isActive_1 : decode cX4_isActive 1 = .ok (.iload_n 1, 1) := by decide +kernel
theorem dX4_isActive_2 : decode cX4_isActive 2 = .ok (.iconst 5, 1) := by decide +kernel
theorem dX4_isActive_3 : decode cX4_isActive 3 = .ok (.invokevirtual 91, 3) := by decide +kernel
theorem dX4_isActive_6 : decode cX4_isActive 6 = .ok (.iconst (-1), 1) := by decide +kernel
theorem dX4_isActive_7 : decode cX4_isActive 7 = .ok (.if_icmp .eq 20, 3) := by decide +kernel
theorem dX4_isActive_10 : decode cX4_isActive 10 = .ok (.aload_n 0, 1) := by decide +kernel
theorem dX4_isActive_11 : decode cX4_isActive 11 = .ok (.getfield 102, 3) := by decide +kernel
theorem dX4_isActive_14 : decode cX4_isActive 14 = .ok (.aload_n 0, 1) := by decide +kernel
theorem dX4_isActive_15 : decode cX4_isActive 15 = .ok (.iload_n 1, 1) := by decide +kernel
theorem dX4_isActive_16 : decode cX4_isActive 16 = .ok (.iconst 5, 1) := by decide +kernel
theorem dX4_isActive_17 : decode cX4_isActive 17 = .ok (.invokevirtual 91, 3) := by decide +kernel
theorem dX4_isActive_20 : decode cX4_isActive 20 = .ok (.ishr, 1) := by decide +kernel
theorem dX4_isActive_21 : decode cX4_isActive 21 = .ok (.iconst 1, 1) := by decide +kernel
theorem dX4_isActive_22 : decode cX4_isActive 22 = .ok (.iand, 1) := by decide +kernel
theorem dX4_isActive_23 : decode cX4_isActive 23 = .ok (.iconst 1, 1) := by decide +kernel
theorem dX4_isActive_24 : decode cX4_isActive 24 = .ok (.if_icmp .ne 7, 3) := by decide +kernel
theorem dX4_isActive_27 : decode cX4_isActive 27 = .ok (.iconst 1, 1) := by decide +kernel
theorem dX4_isActive_28 : decode cX4_isActive 28 = .ok (.goto 4, 3) := by decide +kernel
theorem dX4_isActive_31 : decode cX4_isActive 31 = .ok (.iconst 0, 1) := by decide +kernel
theorem dX4_isActive_32 : decode cX4_isActive 32 = .ok (.ireturn, 1) := by decide +kernel
theorem dX4_candidatesFor_0 : decode cX4_candidatesFor 0 = .ok (.iconst 0, 1) := by decide +kernel
theorem dX4_candidatesFor_1 : decode cX4_candidatesFor 1 = .ok (.istore_n 3, 1) := by decide +kernel
theorem dX4_candidatesFor_2 : decode cX4_candidatesFor 2 = .ok (.iconst 0, 1) := by decide +kernel
theorem dX4_candidatesFor_3 : decode cX4_candidatesFor 3 = .ok (.istore 4, 2) := by decide +kernel
theorem dX4_candidatesFor_5 : decode cX4_candidatesFor 5 = .ok (.iload 4, 2) := by decide +kernel
theorem dX4_candidatesFor_7 : decode cX4_candidatesFor 7 = .ok (.aload_n 0, 1) := by decide +kernel
theorem dX4_candidatesFor_8 : decode cX4_candidatesFor 8 = .ok (.getfield 75, 3) := by decide +kernel
theorem dX4_candidatesFor_11 : decode cX4_candidatesFor 11 = .ok (.if_icmp .ge 72, 3) := by decide +kernel
theorem dX4_candidatesFor_14 : decode cX4_candidatesFor 14 = .ok (.aload_n 0, 1) := by decide +kernel
theorem dX4_candidatesFor_15 : decode cX4_candidatesFor 15 = .ok (.iload 4, 2) := by decide +kernel
theorem dX4_candidatesFor_17 : decode cX4_candidatesFor 17 = .ok (.invokevirtual 105, 3) := by decide +kernel
theorem dX4_candidatesFor_20 : decode cX4_candidatesFor 20 = .ok (.ifCond .eq 38, 3) := by decide +kernel
theorem dX4_candidatesFor_23 : decode cX4_candidatesFor 23 = .ok (.aload_n 0, 1) := by decide +kernel
theorem dX4_candidatesFor_24 : decode cX4_candidatesFor 24 = .ok (.iload 4, 2) := by decide +kernel
theorem dX4_candidatesFor_26 : decode cX4_candidatesFor 26 = .ok (.iconst 0, 1) := by decide +kernel
theorem dX4_candidatesFor_27 : decode cX4_candidatesFor 27 = .ok (.invokevirtual 91, 3) := by decide +kernel
theorem dX4_candidatesFor_30 : decode cX4_candidatesFor 30 = .ok (.iload_n 1, 1) := by decide +kernel
theorem dX4_candidatesFor_31 : decode cX4_candidatesFor 31 = .ok (.ishr, 1) := by decide +kernel
theorem dX4_candidatesFor_32 : decode cX4_candidatesFor 32 = .ok (.iconst 1, 1) := by decide +kernel
theorem dX4_candidatesFor_33 : decode cX4_candidatesFor 33 = .ok (.iand, 1) := by decide +kernel
theorem dX4_candidatesFor_34 : decode cX4_candidatesFor 34 = .ok (.iconst 1, 1) := by decide +kernel
theorem dX4_candidatesFor_35 : decode cX4_candidatesFor 35 = .ok (.if_icmp .ne 23, 3) := by decide +kernel
theorem dX4_candidatesFor_38 : decode cX4_candidatesFor 38 = .ok (.iload_n 2, 1) := by decide +kernel
theorem dX4_candidatesFor_39 : decode cX4_candidatesFor 39 = .ok (.iconst (-1), 1) := by decide +kernel
theorem dX4_candidatesFor_40 : decode cX4_candidatesFor 40 = .ok (.if_icmp .eq 14, 3) := by decide +kernel
theorem dX4_candidatesFor_43 : decode cX4_candidatesFor 43 = .ok (.aload_n 0, 1) := by decide +kernel
theorem dX4_candidatesFor_44 : decode cX4_candidatesFor 44 = .ok (.iload 4, 2) := by decide +kernel
theorem dX4_candidatesFor_46 : decode cX4_candidatesFor 46 = .ok (.iconst 2, 1) := by decide +kernel
theorem dX4_candidatesFor_47 : decode cX4_candidatesFor 47 = .ok (.invokevirtual 91, 3) := by decide +kernel
theorem dX4_candidatesFor_50 : decode cX4_candidatesFor 50 = .ok (.iload_n 2, 1) := by decide +kernel
theorem dX4_candidatesFor_51 : decode cX4_candidatesFor 51 = .ok (.if_icmp .ne 7, 3) := by decide +kernel
theorem dX4_candidatesFor_54 : decode cX4_candidatesFor 54 = .ok (.iconst 1, 1) := by decide +kernel
theorem dX4_candidatesFor_55 : decode cX4_candidatesFor 55 = .ok (.goto 4, 3) := by decide +kernel
theorem dX4_candidatesFor_58 : decode cX4_candidatesFor 58 = .ok (.iconst 0, 1) := by decide +kernel
theorem dX4_candidatesFor_59 : decode cX4_candidatesFor 59 = .ok (.istore 5, 2) := by decide +kernel
theorem dX4_candidatesFor_61 : decode cX4_candidatesFor 61 = .ok (.iload_n 3, 1) := by decide +kernel
theorem dX4_candidatesFor_62 : decode cX4_candidatesFor 62 = .ok (.iload 5, 2) := by decide +kernel
theorem dX4_candidatesFor_64 : decode cX4_candidatesFor 64 = .ok (.ifCond .eq 10, 3) := by decide +kernel
theorem dX4_candidatesFor_67 : decode cX4_candidatesFor 67 = .ok (.iconst 1, 1) := by decide +kernel
theorem dX4_candidatesFor_68 : decode cX4_candidatesFor 68 = .ok (.iload 4, 2) := by decide +kernel
theorem dX4_candidatesFor_70 : decode cX4_candidatesFor 70 = .ok (.ishl, 1) := by decide +kernel
theorem dX4_candidatesFor_71 : decode cX4_candidatesFor 71 = .ok (.goto 4, 3) := by decide +kernel
theorem dX4_candidatesFor_74 : decode cX4_candidatesFor 74 = .ok (.iconst 0, 1) := by decide +kernel
theorem dX4_candidatesFor_75 : decode cX4_candidatesFor 75 = .ok (.ior, 1) := by decide +kernel
theorem dX4_candidatesFor_76 : decode cX4_candidatesFor 76 = .ok (.istore_n 3, 1) := by decide +kernel
theorem dX4_candidatesFor_77 : decode cX4_candidatesFor 77 = .ok (.iinc 4 1, 3) := by decide +kernel
theorem dX4_candidatesFor_80 : decode cX4_candidatesFor 80 = .ok (.goto (-75), 3) := by decide +kernel
theorem dX4_candidatesFor_83 : decode cX4_candidatesFor 83 = .ok (.iload_n 3, 1) := by decide +kernel
theorem dX4_candidatesFor_84 : decode cX4_candidatesFor 84 = .ok (.ireturn, 1) := by decide +kernel
theorem dX4_bits_0 : decode cX4_bits 0 = .ok (.iconst 0, 1) := by decide +kernel
theorem dX4_bits_1 : decode cX4_bits 1 = .ok (.istore_n 1, 1) := by decide +kernel
theorem dX4_bits_2 : decode cX4_bits 2 = .ok (.iconst 0, 1) := by decide +kernel
theorem dX4_bits_3 : decode cX4_bits 3 = .ok (.istore_n 2, 1) := by decide +kernel
theorem dX4_bits_4 : decode cX4_bits 4 = .ok (.iload_n 2, 1) := by decide +kernel
theorem dX4_bits_5 : decode cX4_bits 5 = .ok (.bipush 20, 2) := by decide +kernel
theorem dX4_bits_7 : decode cX4_bits 7 = .ok (.if_icmp .ge 17, 3) := by decide +kernel
theorem dX4_bits_10 : decode cX4_bits 10 = .ok (.iload_n 1, 1) := by decide +kernel
theorem dX4_bits_11 : decode cX4_bits 11 = .ok (.iload_n 0, 1) := by decide +kernel
theorem dX4_bits_12 : decode cX4_bits 12 = .ok (.iload_n 2, 1) := by decide +kernel
theorem dX4_bits_13 : decode cX4_bits 13 = .ok (.ishr, 1) := by decide +kernel
theorem dX4_bits_14 : decode cX4_bits 14 = .ok (.iconst 1, 1) := by decide +kernel
theorem dX4_bits_15 : decode cX4_bits 15 = .ok (.iand, 1) := by decide +kernel
theorem dX4_bits_16 : decode cX4_bits 16 = .ok (.iadd, 1) := by decide +kernel
theorem dX4_bits_17 : decode cX4_bits 17 = .ok (.istore_n 1, 1) := by decide +kernel
theorem dX4_bits_18 : decode cX4_bits 18 = .ok (.iinc 2 1, 3) := by decide +kernel
theorem dX4_bits_21 : decode cX4_bits 21 = .ok (.goto (-17), 3) := by decide +kernel
theorem dX4_bits_24 : decode cX4_bits 24 = .ok (.iload_n 1, 1) := by decide +kernel
theorem dX4_bits_25 : decode cX4_bits 25 = .ok (.ireturn, 1) := by decide +kernel
theorem dX4_lowest_0 : decode cX4_lowest 0 = .ok (.iconst 0, 1) := by decide +kernel
theorem dX4_lowest_1 : decode cX4_lowest 1 = .ok (.istore_n 1, 1) := by decide +kernel
theorem dX4_lowest_2 : decode cX4_lowest 2 = .ok (.iload_n 0, 1) := by decide +kernel
theorem dX4_lowest_3 : decode cX4_lowest 3 = .ok (.iload_n 1, 1) := by decide +kernel
theorem dX4_lowest_4 : decode cX4_lowest 4 = .ok (.ishr, 1) := by decide +kernel
theorem dX4_lowest_5 : decode cX4_lowest 5 = .ok (.iconst 1, 1) := by decide +kernel
theorem dX4_lowest_6 : decode cX4_lowest 6 = .ok (.iand, 1) := by decide +kernel
theorem dX4_lowest_7 : decode cX4_lowest 7 = .ok (.ifCond .ne 9, 3) := by decide +kernel
theorem dX4_lowest_10 : decode cX4_lowest 10 = .ok (.iinc 1 1, 3) := by decide +kernel
theorem dX4_lowest_13 : decode cX4_lowest 13 = .ok (.goto (-11), 3) := by decide +kernel
theorem dX4_lowest_16 : decode cX4_lowest 16 = .ok (.iload_n 1, 1) := by decide +kernel
theorem dX4_lowest_17 : decode cX4_lowest 17 = .ok (.ireturn, 1) := by decide +kernel
theorem dX4_choose_0 : decode cX4_choose 0 = .ok (.aload_n 0, 1) := by decide +kernel
theorem dX4_choose_1 : decode cX4_choose 1 = .ok (.iload_n 1, 1) := by decide +kernel
theorem dX4_choose_2 : decode cX4_choose 2 = .ok (.iload_n 2, 1) := by decide +kernel
theorem dX4_choose_3 : decode cX4_choose 3 = .ok (.invokevirtual 108, 3) := by decide +kernel
theorem dX4_choose_6 : decode cX4_choose 6 = .ok (.istore_n 3, 1) := by decide +kernel
theorem dX4_choose_7 : decode cX4_choose 7 = .ok (.iload_n 3, 1) := by decide +kernel
theorem dX4_choose_8 : decode cX4_choose 8 = .ok (.ifCond .ne 5, 3) := by decide +kernel
theorem dX4_choose_11 : decode cX4_choose 11 = .ok (.iconst (-1), 1) := by decide +kernel
theorem dX4_choose_12 : decode cX4_choose 12 = .ok (.ireturn, 1) := by decide +kernel
theorem dX4_choose_13 : decode cX4_choose 13 = .ok (.iload_n 3, 1) := by decide +kernel
theorem dX4_choose_14 : decode cX4_choose 14 = .ok (.invokestatic 111, 3) := by decide +kernel
theorem dX4_choose_17 : decode cX4_choose 17 = .ok (.iconst 1, 1) := by decide +kernel
theorem dX4_choose_18 : decode cX4_choose 18 = .ok (.if_icmp .ne 8, 3) := by decide +kernel
theorem dX4_choose_21 : decode cX4_choose 21 = .ok (.iload_n 3, 1) := by decide +kernel
theorem dX4_choose_22 : decode cX4_choose 22 = .ok (.invokestatic 115, 3) := by decide +kernel
theorem dX4_choose_25 : decode cX4_choose 25 = .ok (.ireturn, 1) := by decide +kernel
theorem dX4_choose_26 : decode cX4_choose 26 = .ok (.iconst 0, 1) := by decide +kernel
theorem dX4_choose_27 : decode cX4_choose 27 = .ok (.istore 4, 2) := by decide +kernel
theorem dX4_choose_29 : decode cX4_choose 29 = .ok (.iconst 0, 1) := by decide +kernel
theorem dX4_choose_30 : decode cX4_choose 30 = .ok (.istore 5, 2) := by decide +kernel
theorem dX4_choose_32 : decode cX4_choose 32 = .ok (.iload 5, 2) := by decide +kernel
theorem dX4_choose_34 : decode cX4_choose 34 = .ok (.aload_n 0, 1) := by decide +kernel
theorem dX4_choose_35 : decode cX4_choose 35 = .ok (.getfield 75, 3) := by decide +kernel
theorem dX4_choose_38 : decode cX4_choose 38 = .ok (.if_icmp .ge 43, 3) := by decide +kernel
theorem dX4_choose_41 : decode cX4_choose 41 = .ok (.iload 4, 2) := by decide +kernel
theorem dX4_choose_43 : decode cX4_choose 43 = .ok (.iload_n 3, 1) := by decide +kernel
theorem dX4_choose_44 : decode cX4_choose 44 = .ok (.iload 5, 2) := by decide +kernel
theorem dX4_choose_46 : decode cX4_choose 46 = .ok (.ishr, 1) := by decide +kernel
theorem dX4_choose_47 : decode cX4_choose 47 = .ok (.iconst 1, 1) := by decide +kernel
theorem dX4_choose_48 : decode cX4_choose 48 = .ok (.iand, 1) := by decide +kernel
theorem dX4_choose_49 : decode cX4_choose 49 = .ok (.iconst 1, 1) := by decide +kernel
theorem dX4_choose_50 : decode cX4_choose 50 = .ok (.if_icmp .ne 21, 3) := by decide +kernel
theorem dX4_choose_53 : decode cX4_choose 53 = .ok (.aload_n 0, 1) := by decide +kernel
theorem dX4_choose_54 : decode cX4_choose 54 = .ok (.iload 5, 2) := by decide +kernel
theorem dX4_choose_56 : decode cX4_choose 56 = .ok (.iconst 3, 1) := by decide +kernel
theorem dX4_choose_57 : decode cX4_choose 57 = .ok (.invokevirtual 91, 3) := by decide +kernel
theorem dX4_choose_60 : decode cX4_choose 60 = .ok (.iconst 1, 1) := by decide +kernel
theorem dX4_choose_61 : decode cX4_choose 61 = .ok (.if_icmp .ne 10, 3) := by decide +kernel
theorem dX4_choose_64 : decode cX4_choose 64 = .ok (.iconst 1, 1) := by decide +kernel
theorem dX4_choose_65 : decode cX4_choose 65 = .ok (.iload 5, 2) := by decide +kernel
theorem dX4_choose_67 : decode cX4_choose 67 = .ok (.ishl, 1) := by decide +kernel
theorem dX4_choose_68 : decode cX4_choose 68 = .ok (.goto 4, 3) := by decide +kernel
theorem dX4_choose_71 : decode cX4_choose 71 = .ok (.iconst 0, 1) := by decide +kernel
theorem dX4_choose_72 : decode cX4_choose 72 = .ok (.ior, 1) := by decide +kernel
theorem dX4_choose_73 : decode cX4_choose 73 = .ok (.istore 4, 2) := by decide +kernel
theorem dX4_choose_75 : decode cX4_choose 75 = .ok (.iinc 5 1, 3) := by decide +kernel
theorem dX4_choose_78 : decode cX4_choose 78 = .ok (.goto (-46), 3) := by decide +kernel
theorem dX4_choose_81 : decode cX4_choose 81 = .ok (.iload 4, 2) := by decide +kernel
theorem dX4_choose_83 : decode cX4_choose 83 = .ok (.invokestatic 111, 3) := by decide +kernel
theorem dX4_choose_86 : decode cX4_choose 86 = .ok (.iconst 1, 1) := by decide +kernel
theorem dX4_choose_87 : decode cX4_choose 87 = .ok (.if_icmp .ne 11, 3) := by decide +kernel
theorem dX4_choose_90 : decode cX4_choose 90 = .ok (.iload 4, 2) := by decide +kernel
theorem dX4_choose_92 : decode cX4_choose 92 = .ok (.invokestatic 115, 3) := by decide +kernel
theorem dX4_choose_95 : decode cX4_choose 95 = .ok (.goto 5, 3) := by decide +kernel
theorem dX4_choose_98 : decode cX4_choose 98 = .ok (.bipush (-2), 2) := by decide +kernel
theorem dX4_choose_100 : decode cX4_choose 100 = .ok (.ireturn, 1) := by decide +kernel
theorem dX4_candidates_0 : decode cX4_candidates 0 = .ok (.aload_n 0, 1) := by decide +kernel
theorem dX4_candidates_1 : decode cX4_candidates 1 = .ok (.iload_n 1, 1) := by decide +kernel
theorem dX4_candidates_2 : decode cX4_candidates 2 = .ok (.iload_n 2, 1) := by decide +kernel
theorem dX4_candidates_3 : decode cX4_candidates 3 = .ok (.invokestatic 95, 3) := by decide +kernel
theorem dX4_candidates_6 : decode cX4_candidates 6 = .ok (.ifCond .eq 7, 3) := by decide +kernel
theorem dX4_candidates_9 : decode cX4_candidates 9 = .ok (.iconst 0, 1) := by decide +kernel
theorem dX4_candidates_10 : decode cX4_candidates 10 = .ok (.goto 4, 3) := by decide +kernel
theorem dX4_candidates_13 : decode cX4_candidates 13 = .ok (.iconst 1, 1) := by decide +kernel
theorem dX4_candidates_14 : decode cX4_candidates 14 = .ok (.putfield 72, 3) := by decide +kernel
theorem dX4_candidates_17 : decode cX4_candidates 17 = .ok (.aload_n 0, 1) := by decide +kernel
theorem dX4_candidates_18 : decode cX4_candidates 18 = .ok (.getfield 72, 3) := by decide +kernel
theorem dX4_candidates_21 : decode cX4_candidates 21 = .ok (.ifCond .eq 7, 3) := by decide +kernel
theorem dX4_candidates_24 : decode cX4_candidates 24 = .ok (.iconst 0, 1) := by decide +kernel
theorem dX4_candidates_25 : decode cX4_candidates 25 = .ok (.goto 9, 3) := by decide +kernel
theorem dX4_candidates_28 : decode cX4_candidates 28 = .ok (.aload_n 0, 1) := by decide +kernel
theorem dX4_candidates_29 : decode cX4_candidates 29 = .ok (.iload_n 1, 1) := by decide +kernel
theorem dX4_candidates_30 : decode cX4_candidates 30 = .ok (.iload_n 2, 1) := by decide +kernel
theorem dX4_candidates_31 : decode cX4_candidates 31 = .ok (.invokevirtual 108, 3) := by decide +kernel
theorem dX4_candidates_34 : decode cX4_candidates 34 = .ok (.ireturn, 1) := by decide +kernel
theorem dX4_chosen_0 : decode cX4_chosen 0 = .ok (.aload_n 0, 1) := by decide +kernel
theorem dX4_chosen_1 : decode cX4_chosen 1 = .ok (.iload_n 1, 1) := by decide +kernel
theorem dX4_chosen_2 : decode cX4_chosen 2 = .ok (.iload_n 2, 1) := by decide +kernel
theorem dX4_chosen_3 : decode cX4_chosen 3 = .ok (.invokestatic 95, 3) := by decide +kernel
theorem dX4_chosen_6 : decode cX4_chosen 6 = .ok (.ifCond .eq 7, 3) := by decide +kernel
theorem dX4_chosen_9 : decode cX4_chosen 9 = .ok (.iconst 0, 1) := by decide +kernel
theorem dX4_chosen_10 : decode cX4_chosen 10 = .ok (.goto 4, 3) := by decide +kernel
theorem dX4_chosen_13 : decode cX4_chosen 13 = .ok (.iconst 1, 1) := by decide +kernel
theorem dX4_chosen_14 : decode cX4_chosen 14 = .ok (.putfield 72, 3) := by decide +kernel
theorem dX4_chosen_17 : decode cX4_chosen 17 = .ok (.aload_n 0, 1) := by decide +kernel
theorem dX4_chosen_18 : decode cX4_chosen 18 = .ok (.getfield 72, 3) := by decide +kernel
theorem dX4_chosen_21 : decode cX4_chosen 21 = .ok (.ifCond .eq 5, 3) := by decide +kernel
theorem dX4_chosen_24 : decode cX4_chosen 24 = .ok (.iconst 0, 1) := by decide +kernel
theorem dX4_chosen_25 : decode cX4_chosen 25 = .ok (.ireturn, 1) := by decide +kernel
theorem dX4_chosen_26 : decode cX4_chosen 26 = .ok (.aload_n 0, 1) := by decide +kernel
theorem dX4_chosen_27 : decode cX4_chosen 27 = .ok (.iload_n 1, 1) := by decide +kernel
theorem dX4_chosen_28 : decode cX4_chosen 28 = .ok (.iload_n 2, 1) := by decide +kernel
theorem dX4_chosen_29 : decode cX4_chosen 29 = .ok (.invokevirtual 118, 3) := by decide +kernel
theorem dX4_chosen_32 : decode cX4_chosen 32 = .ok (.istore_n 3, 1) := by decide +kernel
theorem dX4_chosen_33 : decode cX4_chosen 33 = .ok (.iload_n 3, 1) := by decide +kernel
theorem dX4_chosen_34 : decode cX4_chosen 34 = .ok (.ifCond .ge 7, 3) := by decide +kernel
theorem dX4_chosen_37 : decode cX4_chosen 37 = .ok (.iconst (-1), 1) := by decide +kernel
theorem dX4_chosen_38 : decode cX4_chosen 38 = .ok (.goto 4, 3) := by decide +kernel
theorem dX4_chosen_41 : decode cX4_chosen 41 = .ok (.iload_n 3, 1) := by decide +kernel
theorem dX4_chosen_42 : decode cX4_chosen 42 = .ok (.ireturn, 1) := by decide +kernel
theorem dX4_isInFrames_0 : decode cX4_isInFrames 0 = .ok (.iconst 0, 1) := by decide +kernel
theorem dX4_isInFrames_1 : decode cX4_isInFrames 1 = .ok (.istore_n 2, 1) := by decide +kernel
theorem dX4_isInFrames_2 : decode cX4_isInFrames 2 = .ok (.iconst 0, 1) := by decide +kernel
theorem dX4_isInFrames_3 : decode cX4_isInFrames 3 = .ok (.istore_n 3, 1) := by decide +kernel
theorem dX4_isInFrames_4 : decode cX4_isInFrames 4 = .ok (.iload_n 3, 1) := by decide +kernel
theorem dX4_isInFrames_5 : decode cX4_isInFrames 5 = .ok (.aload_n 0, 1) := by decide +kernel
theorem dX4_isInFrames_6 : decode cX4_isInFrames 6 = .ok (.getfield 121, 3) := by decide +kernel
theorem dX4_isInFrames_9 : decode cX4_isInFrames 9 = .ok (.if_icmp .ge 29, 3) := by decide +kernel
theorem dX4_isInFrames_12 : decode cX4_isInFrames 12 = .ok (.iload_n 2, 1) := by decide +kernel
theorem dX4_isInFrames_13 : decode cX4_isInFrames 13 = .ok (.ifCond .ne 13, 3) := by decide +kernel
theorem dX4_isInFrames_16 : decode cX4_isInFrames 16 = .ok (.aload_n 0, 1) := by decide +kernel
theorem dX4_isInFrames_17 : decode cX4_isInFrames 17 = .ok (.getfield 22, 3) := by decide +kernel
theorem dX4_isInFrames_20 : decode cX4_isInFrames 20 = .ok (.iload_n 3, 1) := by decide +kernel
theorem dX4_isInFrames_21 : decode cX4_isInFrames 21 = .ok (.iaload, 1) := by decide +kernel
theorem dX4_isInFrames_22 : decode cX4_isInFrames 22 = .ok (.iload_n 1, 1) := by decide +kernel
theorem dX4_isInFrames_23 : decode cX4_isInFrames 23 = .ok (.if_icmp .ne 7, 3) := by decide +kernel
theorem dX4_isInFrames_26 : decode cX4_isInFrames 26 = .ok (.iconst 1, 1) := by decide +kernel
theorem dX4_isInFrames_27 : decode cX4_isInFrames 27 = .ok (.goto 4, 3) := by decide +kernel
theorem dX4_isInFrames_30 : decode cX4_isInFrames 30 = .ok (.iconst 0, 1) := by decide +kernel
theorem dX4_isInFrames_31 : decode cX4_isInFrames 31 = .ok (.istore_n 2, 1) := by decide +kernel
theorem dX4_isInFrames_32 : decode cX4_isInFrames 32 = .ok (.iinc 3 1, 3) := by decide +kernel
theorem dX4_isInFrames_35 : decode cX4_isInFrames 35 = .ok (.goto (-31), 3) := by decide +kernel
theorem dX4_isInFrames_38 : decode cX4_isInFrames 38 = .ok (.iload_n 2, 1) := by decide +kernel
theorem dX4_isInFrames_39 : decode cX4_isInFrames 39 = .ok (.ireturn, 1) := by decide +kernel
theorem dX4_push_0 : decode cX4_push 0 = .ok (.aload_n 0, 1) := by decide +kernel
theorem dX4_push_1 : decode cX4_push 1 = .ok (.getfield 22, 3) := by decide +kernel
theorem dX4_push_4 : decode cX4_push 4 = .ok (.aload_n 0, 1) := by decide +kernel
theorem dX4_push_5 : decode cX4_push 5 = .ok (.getfield 121, 3) := by decide +kernel
theorem dX4_push_8 : decode cX4_push 8 = .ok (.iload_n 1, 1) := by decide +kernel
theorem dX4_push_9 : decode cX4_push 9 = .ok (.iastore, 1) := by decide +kernel
theorem dX4_push_10 : decode cX4_push 10 = .ok (.aload_n 0, 1) := by decide +kernel
theorem dX4_push_11 : decode cX4_push 11 = .ok (.getfield 25, 3) := by decide +kernel
theorem dX4_push_14 : decode cX4_push 14 = .ok (.aload_n 0, 1) := by decide +kernel
theorem dX4_push_15 : decode cX4_push 15 = .ok (.getfield 121, 3) := by decide +kernel
theorem dX4_push_18 : decode cX4_push 18 = .ok (.iconst 0, 1) := by decide +kernel
theorem dX4_push_19 : decode cX4_push 19 = .ok (.iastore, 1) := by decide +kernel
theorem dX4_push_20 : decode cX4_push 20 = .ok (.aload_n 0, 1) := by decide +kernel
theorem dX4_push_21 : decode cX4_push 21 = .ok (.getfield 28, 3) := by decide +kernel
theorem dX4_push_24 : decode cX4_push 24 = .ok (.aload_n 0, 1) := by decide +kernel
theorem dX4_push_25 : decode cX4_push 25 = .ok (.getfield 121, 3) := by decide +kernel
theorem dX4_push_28 : decode cX4_push 28 = .ok (.iconst 0, 1) := by decide +kernel
theorem dX4_push_29 : decode cX4_push 29 = .ok (.iastore, 1) := by decide +kernel
theorem dX4_push_30 : decode cX4_push 30 = .ok (.aload_n 0, 1) := by decide +kernel
theorem dX4_push_31 : decode cX4_push 31 = .ok (.dup, 1) := by decide +kernel
theorem dX4_push_32 : decode cX4_push 32 = .ok (.getfield 121, 3) := by decide +kernel
theorem dX4_push_35 : decode cX4_push 35 = .ok (.iconst 1, 1) := by decide +kernel
theorem dX4_push_36 : decode cX4_push 36 = .ok (.iadd, 1) := by decide +kernel
theorem dX4_push_37 : decode cX4_push 37 = .ok (.putfield 121, 3) := by decide +kernel
theorem dX4_push_40 : decode cX4_push 40 = .ok (.return_, 1) := by decide +kernel
theorem dX4_wanted_0 : decode cX4_wanted 0 = .ok (.aload_n 0, 1) := by decide +kernel
theorem dX4_wanted_1 : decode cX4_wanted 1 = .ok (.iload_n 1, 1) := by decide +kernel
theorem dX4_wanted_2 : decode cX4_wanted 2 = .ok (.iload_n 2, 1) := by decide +kernel
theorem dX4_wanted_3 : decode cX4_wanted 3 = .ok (.iconst 2, 1) := by decide +kernel
theorem dX4_wanted_4 : decode cX4_wanted 4 = .ok (.invokevirtual 98, 3) := by decide +kernel
theorem dX4_wanted_7 : decode cX4_wanted 7 = .ok (.istore_n 3, 1) := by decide +kernel
theorem dX4_wanted_8 : decode cX4_wanted 8 = .ok (.aload_n 0, 1) := by decide +kernel
theorem dX4_wanted_9 : decode cX4_wanted 9 = .ok (.iload_n 1, 1) := by decide +kernel
theorem dX4_wanted_10 : decode cX4_wanted 10 = .ok (.iload_n 2, 1) := by decide +kernel
theorem dX4_wanted_11 : decode cX4_wanted 11 = .ok (.iconst 0, 1) := by decide +kernel
theorem dX4_wanted_12 : decode cX4_wanted 12 = .ok (.invokevirtual 98, 3) := by decide +kernel
theorem dX4_wanted_15 : decode cX4_wanted 15 = .ok (.istore 4, 2) := by decide +kernel
theorem dX4_wanted_17 : decode cX4_wanted 17 = .ok (.aload_n 0, 1) := by decide +kernel
theorem dX4_wanted_18 : decode cX4_wanted 18 = .ok (.iload_n 1, 1) := by decide +kernel
theorem dX4_wanted_19 : decode cX4_wanted 19 = .ok (.iload_n 2, 1) := by decide +kernel
theorem dX4_wanted_20 : decode cX4_wanted 20 = .ok (.iconst 1, 1) := by decide +kernel
theorem dX4_wanted_21 : decode cX4_wanted 21 = .ok (.invokevirtual 98, 3) := by decide +kernel
theorem dX4_wanted_24 : decode cX4_wanted 24 = .ok (.istore 5, 2) := by decide +kernel
theorem dX4_wanted_26 : decode cX4_wanted 26 = .ok (.iload_n 3, 1) := by decide +kernel
theorem dX4_wanted_27 : decode cX4_wanted 27 = .ok (.iconst 3, 1) := by decide +kernel
theorem dX4_wanted_28 : decode cX4_wanted 28 = .ok (.if_icmp .ne 5, 3) := by decide +kernel
theorem dX4_wanted_31 : decode cX4_wanted 31 = .ok (.iconst 0, 1) := by decide +kernel
theorem dX4_wanted_32 : decode cX4_wanted 32 = .ok (.ireturn, 1) := by decide +kernel
theorem dX4_wanted_33 : decode cX4_wanted 33 = .ok (.iload_n 3, 1) := by decide +kernel
theorem dX4_wanted_34 : decode cX4_wanted 34 = .ok (.iconst 2, 1) := by decide +kernel
theorem dX4_wanted_35 : decode cX4_wanted 35 = .ok (.if_icmp .ne 12, 3) := by decide +kernel
theorem dX4_wanted_38 : decode cX4_wanted 38 = .ok (.aload_n 0, 1) := by decide +kernel
theorem dX4_wanted_39 : decode cX4_wanted 39 = .ok (.iload 4, 2) := by decide +kernel
theorem dX4_wanted_41 : decode cX4_wanted 41 = .ok (.iload 5, 2) := by decide +kernel
theorem dX4_wanted_43 : decode cX4_wanted 43 = .ok (.invokevirtual 108, 3) := by decide +kernel
theorem dX4_wanted_46 : decode cX4_wanted 46 = .ok (.ireturn, 1) := by decide +kernel
theorem dX4_wanted_47 : decode cX4_wanted 47 = .ok (.aload_n 0, 1) := by decide +kernel
theorem dX4_wanted_48 : decode cX4_wanted 48 = .ok (.iload 4, 2) := by decide +kernel
theorem dX4_wanted_50 : decode cX4_wanted 50 = .ok (.iload 5, 2) := by decide +kernel
theorem dX4_wanted_52 : decode cX4_wanted 52 = .ok (.invokevirtual 118, 3) := by decide +kernel
theorem dX4_wanted_55 : decode cX4_wanted 55 = .ok (.istore 6, 2) := by decide +kernel
theorem dX4_wanted_57 : decode cX4_wanted 57 = .ok (.iload 6, 2) := by decide +kernel
theorem dX4_wanted_59 : decode cX4_wanted 59 = .ok (.ifCond .lt 10, 3) := by decide +kernel
theorem dX4_wanted_62 : decode cX4_wanted 62 = .ok (.iconst 1, 1) := by decide +kernel
theorem dX4_wanted_63 : decode cX4_wanted 63 = .ok (.iload 6, 2) := by decide +kernel
theorem dX4_wanted_65 : decode cX4_wanted 65 = .ok (.ishl, 1) := by decide +kernel
theorem dX4_wanted_66 : decode cX4_wanted 66 = .ok (.goto 20, 3) := by decide +kernel
theorem dX4_wanted_69 : decode cX4_wanted 69 = .ok (.iload_n 3, 1) := by decide +kernel
theorem dX4_wanted_70 : decode cX4_wanted 70 = .ok (.iconst 1, 1) := by decide +kernel
theorem dX4_wanted_71 : decode cX4_wanted 71 = .ok (.if_icmp .ne 13, 3) := by decide +kernel
theorem dX4_wanted_74 : decode cX4_wanted 74 = .ok (.iload 6, 2) := by decide +kernel
theorem dX4_wanted_76 : decode cX4_wanted 76 = .ok (.iconst (-1), 1) := by decide +kernel
theorem dX4_wanted_77 : decode cX4_wanted 77 = .ok (.if_icmp .ne 7, 3) := by decide +kernel
theorem dX4_wanted_80 : decode cX4_wanted 80 = .ok (.iconst 0, 1) := by decide +kernel
theorem dX4_wanted_81 : decode cX4_wanted 81 = .ok (.goto 5, 3) := by decide +kernel
theorem dX4_wanted_84 : decode cX4_wanted 84 = .ok (.iload 6, 2) := by decide +kernel
theorem dX4_wanted_86 : decode cX4_wanted 86 = .ok (.ireturn, 1) := by decide +kernel
theorem dX4_wouldGoOn_0 : decode cX4_wouldGoOn 0 = .ok (.aload_n 0, 1) := by decide +kernel
theorem dX4_wouldGoOn_1 : decode cX4_wouldGoOn 1 = .ok (.getfield 121, 3) := by decide +kernel
theorem dX4_wouldGoOn_4 : decode cX4_wouldGoOn 4 = .ok (.iconst 1, 1) := by decide +kernel
theorem dX4_wouldGoOn_5 : decode cX4_wouldGoOn 5 = .ok (.isub, 1) := by decide +kernel
theorem dX4_wouldGoOn_6 : decode cX4_wouldGoOn 6 = .ok (.istore_n 1, 1) := by decide +kernel
theorem dX4_wouldGoOn_7 : decode cX4_wouldGoOn 7 = .ok (.aload_n 0, 1) := by decide +kernel
theorem dX4_wouldGoOn_8 : decode cX4_wouldGoOn 8 = .ok (.getfield 28, 3) := by decide +kernel
theorem dX4_wouldGoOn_11 : decode cX4_wouldGoOn 11 = .ok (.iload_n 1, 1) := by decide +kernel
theorem dX4_wouldGoOn_12 : decode cX4_wouldGoOn 12 = .ok (.iaload, 1) := by decide +kernel
theorem dX4_wouldGoOn_13 : decode cX4_wouldGoOn 13 = .ok (.ifCond .eq 58, 3) := by decide +kernel
theorem dX4_wouldGoOn_16 : decode cX4_wouldGoOn 16 = .ok (.aload_n 0, 1) := by decide +kernel
theorem dX4_wouldGoOn_17 : decode cX4_wouldGoOn 17 = .ok (.getfield 28, 3) := by decide +kernel
theorem dX4_wouldGoOn_20 : decode cX4_wouldGoOn 20 = .ok (.iload_n 1, 1) := by decide +kernel
theorem dX4_wouldGoOn_21 : decode cX4_wouldGoOn 21 = .ok (.iaload, 1) := by decide +kernel
theorem dX4_wouldGoOn_22 : decode cX4_wouldGoOn 22 = .ok (.invokestatic 115, 3) := by decide +kernel
theorem dX4_wouldGoOn_25 : decode cX4_wouldGoOn 25 = .ok (.istore_n 2, 1) := by decide +kernel
theorem dX4_wouldGoOn_26 : decode cX4_wouldGoOn 26 = .ok (.aload_n 0, 1) := by decide +kernel
theorem dX4_wouldGoOn_27 : decode cX4_wouldGoOn 27 = .ok (.getfield 28, 3) := by decide +kernel
theorem dX4_wouldGoOn_30 : decode cX4_wouldGoOn 30 = .ok (.iload_n 1, 1) := by decide +kernel
theorem dX4_wouldGoOn_31 : decode cX4_wouldGoOn 31 = .ok (.dup2, 1) := by decide +kernel
theorem dX4_wouldGoOn_32 : decode cX4_wouldGoOn 32 = .ok (.iaload, 1) := by decide +kernel
theorem dX4_wouldGoOn_33 : decode cX4_wouldGoOn 33 = .ok (.iconst 1, 1) := by decide +kernel
theorem dX4_wouldGoOn_34 : decode cX4_wouldGoOn 34 = .ok (.iload_n 2, 1) := by decide +kernel
theorem dX4_wouldGoOn_35 : decode cX4_wouldGoOn 35 = .ok (.ishl, 1) := by decide +kernel
theorem dX4_wouldGoOn_36 : decode cX4_wouldGoOn 36 = .ok (.iconst (-1), 1) := by decide +kernel
theorem dX4_wouldGoOn_37 : decode cX4_wouldGoOn 37 = .ok (.ixor, 1) := by decide +kernel
theorem dX4_wouldGoOn_38 : decode cX4_wouldGoOn 38 = .ok (.iand, 1) := by decide +kernel
theorem dX4_wouldGoOn_39 : decode cX4_wouldGoOn 39 = .ok (.iastore, 1) := by decide +kernel
theorem dX4_wouldGoOn_40 : decode cX4_wouldGoOn 40 = .ok (.aload_n 0, 1) := by decide +kernel
theorem dX4_wouldGoOn_41 : decode cX4_wouldGoOn 41 = .ok (.getfield 124, 3) := by decide +kernel
theorem dX4_wouldGoOn_44 : decode cX4_wouldGoOn 44 = .ok (.iload_n 2, 1) := by decide +kernel
theorem dX4_wouldGoOn_45 : decode cX4_wouldGoOn 45 = .ok (.ishr, 1) := by decide +kernel
theorem dX4_wouldGoOn_46 : decode cX4_wouldGoOn 46 = .ok (.iconst 1, 1) := by decide +kernel
theorem dX4_wouldGoOn_47 : decode cX4_wouldGoOn 47 = .ok (.iand, 1) := by decide +kernel
theorem dX4_wouldGoOn_48 : decode cX4_wouldGoOn 48 = .ok (.iconst 1, 1) := by decide +kernel
theorem dX4_wouldGoOn_49 : decode cX4_wouldGoOn 49 = .ok (.if_icmp .ne 5, 3) := by decide +kernel
theorem dX4_wouldGoOn_52 : decode cX4_wouldGoOn 52 = .ok (.iconst 0, 1) := by decide +kernel
theorem dX4_wouldGoOn_53 : decode cX4_wouldGoOn 53 = .ok (.ireturn, 1) := by decide +kernel
theorem dX4_wouldGoOn_54 : decode cX4_wouldGoOn 54 = .ok (.aload_n 0, 1) := by decide +kernel
theorem dX4_wouldGoOn_55 : decode cX4_wouldGoOn 55 = .ok (.iload_n 2, 1) := by decide +kernel
theorem dX4_wouldGoOn_56 : decode cX4_wouldGoOn 56 = .ok (.invokevirtual 127, 3) := by decide +kernel
theorem dX4_wouldGoOn_59 : decode cX4_wouldGoOn 59 = .ok (.ifCond .eq 5, 3) := by decide +kernel
theorem dX4_wouldGoOn_62 : decode cX4_wouldGoOn 62 = .ok (.iconst 3, 1) := by decide +kernel
theorem dX4_wouldGoOn_63 : decode cX4_wouldGoOn 63 = .ok (.ireturn, 1) := by decide +kernel
theorem dX4_wouldGoOn_64 : decode cX4_wouldGoOn 64 = .ok (.aload_n 0, 1) := by decide +kernel
theorem dX4_wouldGoOn_65 : decode cX4_wouldGoOn 65 = .ok (.iload_n 2, 1) := by decide +kernel
theorem dX4_wouldGoOn_66 : decode cX4_wouldGoOn 66 = .ok (.invokevirtual 130, 3) := by decide +kernel
theorem dX4_wouldGoOn_69 : decode cX4_wouldGoOn 69 = .ok (.iconst 0, 1) := by decide +kernel
theorem dX4_wouldGoOn_70 : decode cX4_wouldGoOn 70 = .ok (.ireturn, 1) := by decide +kernel
theorem dX4_wouldGoOn_71 : decode cX4_wouldGoOn 71 = .ok (.aload_n 0, 1) := by decide +kernel
theorem dX4_wouldGoOn_72 : decode cX4_wouldGoOn 72 = .ok (.getfield 25, 3) := by decide +kernel
theorem dX4_wouldGoOn_75 : decode cX4_wouldGoOn 75 = .ok (.iload_n 1, 1) := by decide +kernel
theorem dX4_wouldGoOn_76 : decode cX4_wouldGoOn 76 = .ok (.iaload, 1) := by decide +kernel
theorem dX4_wouldGoOn_77 : decode cX4_wouldGoOn 77 = .ok (.aload_n 0, 1) := by decide +kernel
theorem dX4_wouldGoOn_78 : decode cX4_wouldGoOn 78 = .ok (.getfield 13, 3) := by decide +kernel
theorem dX4_wouldGoOn_81 : decode cX4_wouldGoOn 81 = .ok (.aload_n 0, 1) := by decide +kernel
theorem dX4_wouldGoOn_82 : decode cX4_wouldGoOn 82 = .ok (.getfield 22, 3) := by decide +kernel
theorem dX4_wouldGoOn_85 : decode cX4_wouldGoOn 85 = .ok (.iload_n 1, 1) := by decide +kernel
theorem dX4_wouldGoOn_86 : decode cX4_wouldGoOn 86 = .ok (.iaload, 1) := by decide +kernel
theorem dX4_wouldGoOn_87 : decode cX4_wouldGoOn 87 = .ok (.iaload, 1) := by decide +kernel
theorem dX4_wouldGoOn_88 : decode cX4_wouldGoOn 88 = .ok (.if_icmp .ne 32, 3) := by decide +kernel
theorem dX4_wouldGoOn_91 : decode cX4_wouldGoOn 91 = .ok (.aload_n 0, 1) := by decide +kernel
theorem dX4_wouldGoOn_92 : decode cX4_wouldGoOn 92 = .ok (.dup, 1) := by decide +kernel
theorem dX4_wouldGoOn_93 : decode cX4_wouldGoOn 93 = .ok (.getfield 124, 3) := by decide +kernel
theorem dX4_wouldGoOn_96 : decode cX4_wouldGoOn 96 = .ok (.iconst 1, 1) := by decide +kernel
theorem dX4_wouldGoOn_97 : decode cX4_wouldGoOn 97 = .ok (.aload_n 0, 1) := by decide +kernel
theorem dX4_wouldGoOn_98 : decode cX4_wouldGoOn 98 = .ok (.getfield 22, 3) := by decide +kernel
theorem dX4_wouldGoOn_101 : decode cX4_wouldGoOn 101 = .ok (.iload_n 1, 1) := by decide +kernel
theorem dX4_wouldGoOn_102 : decode cX4_wouldGoOn 102 = .ok (.iaload, 1) := by decide +kernel
theorem dX4_wouldGoOn_103 : decode cX4_wouldGoOn 103 = .ok (.ishl, 1) := by decide +kernel
theorem dX4_wouldGoOn_104 : decode cX4_wouldGoOn 104 = .ok (.ior, 1) := by decide +kernel
theorem dX4_wouldGoOn_105 : decode cX4_wouldGoOn 105 = .ok (.putfield 124, 3) := by decide +kernel
theorem dX4_wouldGoOn_108 : decode cX4_wouldGoOn 108 = .ok (.aload_n 0, 1) := by decide +kernel
theorem dX4_wouldGoOn_109 : decode cX4_wouldGoOn 109 = .ok (.dup, 1) := by decide +kernel
theorem dX4_wouldGoOn_110 : decode cX4_wouldGoOn 110 = .ok (.getfield 121, 3) := by decide +kernel
theorem dX4_wouldGoOn_113 : decode cX4_wouldGoOn 113 = .ok (.iconst 1, 1) := by decide +kernel
theorem dX4_wouldGoOn_114 : decode cX4_wouldGoOn 114 = .ok (.isub, 1) := by decide +kernel
theorem dX4_wouldGoOn_115 : decode cX4_wouldGoOn 115 = .ok (.putfield 121, 3) := by decide +kernel
theorem dX4_wouldGoOn_118 : decode cX4_wouldGoOn 118 = .ok (.iconst 0, 1) := by decide +kernel
theorem dX4_wouldGoOn_119 : decode cX4_wouldGoOn 119 = .ok (.ireturn, 1) := by decide +kernel
theorem dX4_wouldGoOn_120 : decode cX4_wouldGoOn 120 = .ok (.aload_n 0, 1) := by decide +kernel
theorem dX4_wouldGoOn_121 : decode cX4_wouldGoOn 121 = .ok (.aload_n 0, 1) := by decide +kernel
theorem dX4_wouldGoOn_122 : decode cX4_wouldGoOn 122 = .ok (.getfield 22, 3) := by decide +kernel
theorem dX4_wouldGoOn_125 : decode cX4_wouldGoOn 125 = .ok (.iload_n 1, 1) := by decide +kernel
theorem dX4_wouldGoOn_126 : decode cX4_wouldGoOn 126 = .ok (.iaload, 1) := by decide +kernel
theorem dX4_wouldGoOn_127 : decode cX4_wouldGoOn 127 = .ok (.aload_n 0, 1) := by decide +kernel
theorem dX4_wouldGoOn_128 : decode cX4_wouldGoOn 128 = .ok (.getfield 25, 3) := by decide +kernel
theorem dX4_wouldGoOn_131 : decode cX4_wouldGoOn 131 = .ok (.iload_n 1, 1) := by decide +kernel
theorem dX4_wouldGoOn_132 : decode cX4_wouldGoOn 132 = .ok (.iaload, 1) := by decide +kernel
theorem dX4_wouldGoOn_133 : decode cX4_wouldGoOn 133 = .ok (.invokevirtual 134, 3) := by decide +kernel
theorem dX4_wouldGoOn_136 : decode cX4_wouldGoOn 136 = .ok (.istore_n 2, 1) := by decide +kernel
theorem dX4_wouldGoOn_137 : decode cX4_wouldGoOn 137 = .ok (.aload_n 0, 1) := by decide +kernel
theorem dX4_wouldGoOn_138 : decode cX4_wouldGoOn 138 = .ok (.getfield 25, 3) := by decide +kernel
theorem dX4_wouldGoOn_141 : decode cX4_wouldGoOn 141 = .ok (.iload_n 1, 1) := by decide +kernel
theorem dX4_wouldGoOn_142 : decode cX4_wouldGoOn 142 = .ok (.dup2, 1) := by decide +kernel
theorem dX4_wouldGoOn_143 : decode cX4_wouldGoOn 143 = .ok (.iaload, 1) := by decide +kernel
theorem dX4_wouldGoOn_144 : decode cX4_wouldGoOn 144 = .ok (.iconst 1, 1) := by decide +kernel
theorem dX4_wouldGoOn_145 : decode cX4_wouldGoOn 145 = .ok (.iadd, 1) := by decide +kernel
theorem dX4_wouldGoOn_146 : decode cX4_wouldGoOn 146 = .ok (.iastore, 1) := by decide +kernel
theorem dX4_wouldGoOn_147 : decode cX4_wouldGoOn 147 = .ok (.iload_n 2, 1) := by decide +kernel
theorem dX4_wouldGoOn_148 : decode cX4_wouldGoOn 148 = .ok (.ifCond .ge 6, 3) := by decide +kernel
theorem dX4_wouldGoOn_151 : decode cX4_wouldGoOn 151 = .ok (.iload_n 2, 1) := by decide +kernel
theorem dX4_wouldGoOn_152 : decode cX4_wouldGoOn 152 = .ok (.ineg, 1) := by decide +kernel
theorem dX4_wouldGoOn_153 : decode cX4_wouldGoOn 153 = .ok (.ireturn, 1) := by decide +kernel
theorem dX4_wouldGoOn_154 : decode cX4_wouldGoOn 154 = .ok (.aload_n 0, 1) := by decide +kernel
theorem dX4_wouldGoOn_155 : decode cX4_wouldGoOn 155 = .ok (.getfield 28, 3) := by decide +kernel
theorem dX4_wouldGoOn_158 : decode cX4_wouldGoOn 158 = .ok (.iload_n 1, 1) := by decide +kernel
theorem dX4_wouldGoOn_159 : decode cX4_wouldGoOn 159 = .ok (.iload_n 2, 1) := by decide +kernel
theorem dX4_wouldGoOn_160 : decode cX4_wouldGoOn 160 = .ok (.iastore, 1) := by decide +kernel
theorem dX4_wouldGoOn_161 : decode cX4_wouldGoOn 161 = .ok (.iconst 0, 1) := by decide +kernel
theorem dX4_wouldGoOn_162 : decode cX4_wouldGoOn 162 = .ok (.ireturn, 1) := by decide +kernel
theorem dX4_problem_0 : decode cX4_problem 0 = .ok (.aload_n 0, 1) := by decide +kernel
theorem dX4_problem_1 : decode cX4_problem 1 = .ok (.aload_n 0, 1) := by decide +kernel
theorem dX4_problem_2 : decode cX4_problem 2 = .ok (.iload_n 1, 1) := by decide +kernel
theorem dX4_problem_3 : decode cX4_problem 3 = .ok (.invokevirtual 83, 3) := by decide +kernel
theorem dX4_problem_6 : decode cX4_problem 6 = .ok (.ifCond .eq 7, 3) := by decide +kernel
theorem dX4_problem_9 : decode cX4_problem 9 = .ok (.iconst 0, 1) := by decide +kernel
theorem dX4_problem_10 : decode cX4_problem 10 = .ok (.goto 4, 3) := by decide +kernel
theorem dX4_problem_13 : decode cX4_problem 13 = .ok (.iconst 1, 1) := by decide +kernel
theorem dX4_problem_14 : decode cX4_problem 14 = .ok (.putfield 72, 3) := by decide +kernel
theorem dX4_problem_17 : decode cX4_problem 17 = .ok (.aload_n 0, 1) := by decide +kernel
theorem dX4_problem_18 : decode cX4_problem 18 = .ok (.getfield 72, 3) := by decide +kernel
theorem dX4_problem_21 : decode cX4_problem 21 = .ok (.ifCond .eq 5, 3) := by decide +kernel
theorem dX4_problem_24 : decode cX4_problem 24 = .ok (.iconst 0, 1) := by decide +kernel
theorem dX4_problem_25 : decode cX4_problem 25 = .ok (.ireturn, 1) := by decide +kernel
theorem dX4_problem_26 : decode cX4_problem 26 = .ok (.aload_n 0, 1) := by decide +kernel
theorem dX4_problem_27 : decode cX4_problem 27 = .ok (.iconst 0, 1) := by decide +kernel
theorem dX4_problem_28 : decode cX4_problem 28 = .ok (.putfield 121, 3) := by decide +kernel
theorem dX4_problem_31 : decode cX4_problem 31 = .ok (.aload_n 0, 1) := by decide +kernel
theorem dX4_problem_32 : decode cX4_problem 32 = .ok (.iconst 0, 1) := by decide +kernel
theorem dX4_problem_33 : decode cX4_problem 33 = .ok (.putfield 124, 3) := by decide +kernel
theorem dX4_problem_36 : decode cX4_problem 36 = .ok (.aload_n 0, 1) := by decide +kernel
theorem dX4_problem_37 : decode cX4_problem 37 = .ok (.iload_n 1, 1) := by decide +kernel
theorem dX4_problem_38 : decode cX4_problem 38 = .ok (.invokevirtual 130, 3) := by decide +kernel
theorem dX4_problem_41 : decode cX4_problem 41 = .ok (.iconst 0, 1) := by decide +kernel
theorem dX4_problem_42 : decode cX4_problem 42 = .ok (.istore_n 2, 1) := by decide +kernel
theorem dX4_problem_43 : decode cX4_problem 43 = .ok (.aload_n 0, 1) := by decide +kernel
theorem dX4_problem_44 : decode cX4_problem 44 = .ok (.getfield 121, 3) := by decide +kernel
theorem dX4_problem_47 : decode cX4_problem 47 = .ok (.ifCond .le 15, 3) := by decide +kernel
theorem dX4_problem_50 : decode cX4_problem 50 = .ok (.iload_n 2, 1) := by decide +kernel
theorem dX4_problem_51 : decode cX4_problem 51 = .ok (.ifCond .ne 11, 3) := by decide +kernel
theorem dX4_problem_54 : decode cX4_problem 54 = .ok (.aload_n 0, 1) := by decide +kernel
theorem dX4_problem_55 : decode cX4_problem 55 = .ok (.invokevirtual 137, 3) := by decide +kernel
theorem dX4_problem_58 : decode cX4_problem 58 = .ok (.istore_n 2, 1) := by decide +kernel
theorem dX4_problem_59 : decode cX4_problem 59 = .ok (.goto (-16), 3) := by decide +kernel
theorem dX4_problem_62 : decode cX4_problem 62 = .ok (.aload_n 0, 1) := by decide +kernel
theorem dX4_problem_63 : decode cX4_problem 63 = .ok (.iconst 0, 1) := by decide +kernel
theorem dX4_problem_64 : decode cX4_problem 64 = .ok (.putfield 121, 3) := by decide +kernel
theorem dX4_problem_67 : decode cX4_problem 67 = .ok (.iload_n 2, 1) := by decide +kernel
theorem dX4_problem_68 : decode cX4_problem 68 = .ok (.ireturn, 1) := by decide +kernel
theorem dX4_directly_0 : decode cX4_directly 0 = .ok (.iconst 0, 1) := by decide +kernel
theorem dX4_directly_1 : decode cX4_directly 1 = .ok (.istore_n 2, 1) := by decide +kernel
theorem dX4_directly_2 : decode cX4_directly 2 = .ok (.iconst 0, 1) := by decide +kernel
theorem dX4_directly_3 : decode cX4_directly 3 = .ok (.istore_n 3, 1) := by decide +kernel
theorem dX4_directly_4 : decode cX4_directly 4 = .ok (.iload_n 3, 1) := by decide +kernel
theorem dX4_directly_5 : decode cX4_directly 5 = .ok (.aload_n 0, 1) := by decide +kernel
theorem dX4_directly_6 : decode cX4_directly 6 = .ok (.getfield 13, 3) := by decide +kernel
theorem dX4_directly_9 : decode cX4_directly 9 = .ok (.iload_n 1, 1) := by decide +kernel
theorem dX4_directly_10 : decode cX4_directly 10 = .ok (.iaload, 1) := by decide +kernel
theorem dX4_directly_11 : decode cX4_directly 11 = .ok (.if_icmp .ge 31, 3) := by decide +kernel
theorem dX4_directly_14 : decode cX4_directly 14 = .ok (.aload_n 0, 1) := by decide +kernel
theorem dX4_directly_15 : decode cX4_directly 15 = .ok (.iload_n 1, 1) := by decide +kernel
theorem dX4_directly_16 : decode cX4_directly 16 = .ok (.iload_n 3, 1) := by decide +kernel
theorem dX4_directly_17 : decode cX4_directly 17 = .ok (.invokevirtual 134, 3) := by decide +kernel
theorem dX4_directly_20 : decode cX4_directly 20 = .ok (.istore 4, 2) := by decide +kernel
theorem dX4_directly_22 : decode cX4_directly 22 = .ok (.iload_n 2, 1) := by decide +kernel
theorem dX4_directly_23 : decode cX4_directly 23 = .ok (.iload 4, 2) := by decide +kernel
theorem dX4_directly_25 : decode cX4_directly 25 = .ok (.ifCond .le 8, 3) := by decide +kernel
theorem dX4_directly_28 : decode cX4_directly 28 = .ok (.iload 4, 2) := by decide +kernel
theorem dX4_directly_30 : decode cX4_directly 30 = .ok (.goto 4, 3) := by decide +kernel
theorem dX4_directly_33 : decode cX4_directly 33 = .ok (.iconst 0, 1) := by decide +kernel
theorem dX4_directly_34 : decode cX4_directly 34 = .ok (.ior, 1) := by decide +kernel
theorem dX4_directly_35 : decode cX4_directly 35 = .ok (.istore_n 2, 1) := by decide +kernel
theorem dX4_directly_36 : decode cX4_directly 36 = .ok (.iinc 3 1, 3) := by decide +kernel
theorem dX4_directly_39 : decode cX4_directly 39 = .ok (.goto (-35), 3) := by decide +kernel
theorem dX4_directly_42 : decode cX4_directly 42 = .ok (.iload_n 2, 1) := by decide +kernel
theorem dX4_directly_43 : decode cX4_directly 43 = .ok (.ireturn, 1) := by decide +kernel
theorem dX4_needs_0 : decode cX4_needs 0 = .ok (.aload_n 0, 1) := by decide +kernel
theorem dX4_needs_1 : decode cX4_needs 1 = .ok (.aload_n 0, 1) := by decide +kernel
theorem dX4_needs_2 : decode cX4_needs 2 = .ok (.iload_n 1, 1) := by decide +kernel
theorem dX4_needs_3 : decode cX4_needs 3 = .ok (.invokevirtual 83, 3) := by decide +kernel
theorem dX4_needs_6 : decode cX4_needs 6 = .ok (.ifCond .eq 7, 3) := by decide +kernel
theorem dX4_needs_9 : decode cX4_needs 9 = .ok (.iconst 0, 1) := by decide +kernel
theorem dX4_needs_10 : decode cX4_needs 10 = .ok (.goto 4, 3) := by decide +kernel
theorem dX4_needs_13 : decode cX4_needs 13 = .ok (.iconst 1, 1) := by decide +kernel
theorem dX4_needs_14 : decode cX4_needs 14 = .ok (.putfield 72, 3) := by decide +kernel
theorem dX4_needs_17 : decode cX4_needs 17 = .ok (.aload_n 0, 1) := by decide +kernel
theorem dX4_needs_18 : decode cX4_needs 18 = .ok (.getfield 72, 3) := by decide +kernel
theorem dX4_needs_21 : decode cX4_needs 21 = .ok (.ifCond .eq 5, 3) := by decide +kernel
theorem dX4_needs_24 : decode cX4_needs 24 = .ok (.iconst 0, 1) := by decide +kernel
theorem dX4_needs_25 : decode cX4_needs 25 = .ok (.ireturn, 1) := by decide +kernel
theorem dX4_needs_26 : decode cX4_needs 26 = .ok (.aload_n 0, 1) := by decide +kernel
theorem dX4_needs_27 : decode cX4_needs 27 = .ok (.iload_n 1, 1) := by decide +kernel
theorem dX4_needs_28 : decode cX4_needs 28 = .ok (.invokevirtual 141, 3) := by decide +kernel
theorem dX4_needs_31 : decode cX4_needs 31 = .ok (.istore_n 2, 1) := by decide +kernel
theorem dX4_needs_32 : decode cX4_needs 32 = .ok (.iconst 0, 1) := by decide +kernel
theorem dX4_needs_33 : decode cX4_needs 33 = .ok (.istore_n 3, 1) := by decide +kernel
theorem dX4_needs_34 : decode cX4_needs 34 = .ok (.iload_n 3, 1) := by decide +kernel
theorem dX4_needs_35 : decode cX4_needs 35 = .ok (.aload_n 0, 1) := by decide +kernel
theorem dX4_needs_36 : decode cX4_needs 36 = .ok (.getfield 75, 3) := by decide +kernel
theorem dX4_needs_39 : decode cX4_needs 39 = .ok (.if_icmp .ge 50, 3) := by decide +kernel
theorem dX4_needs_42 : decode cX4_needs 42 = .ok (.iconst 0, 1) := by decide +kernel
theorem dX4_needs_43 : decode cX4_needs 43 = .ok (.istore 4, 2) := by decide +kernel
theorem dX4_needs_45 : decode cX4_needs 45 = .ok (.iload 4, 2) := by decide +kernel
theorem dX4_needs_47 : decode cX4_needs 47 = .ok (.aload_n 0, 1) := by decide +kernel
theorem dX4_needs_48 : decode cX4_needs 48 = .ok (.getfield 75, 3) := by decide +kernel
theorem dX4_needs_51 : decode cX4_needs 51 = .ok (.if_icmp .ge 32, 3) := by decide +kernel
theorem dX4_needs_54 : decode cX4_needs 54 = .ok (.iload_n 2, 1) := by decide +kernel
theorem dX4_needs_55 : decode cX4_needs 55 = .ok (.iload_n 2, 1) := by decide +kernel
theorem dX4_needs_56 : decode cX4_needs 56 = .ok (.iload 4, 2) := by decide +kernel
theorem dX4_needs_58 : decode cX4_needs 58 = .ok (.ishr, 1) := by decide +kernel
theorem dX4_needs_59 : decode cX4_needs 59 = .ok (.iconst 1, 1) := by decide +kernel
theorem dX4_needs_60 : decode cX4_needs 60 = .ok (.iand, 1) := by decide +kernel
theorem dX4_needs_61 : decode cX4_needs 61 = .ok (.iconst 1, 1) := by decide +kernel
theorem dX4_needs_62 : decode cX4_needs 62 = .ok (.if_icmp .ne 12, 3) := by decide +kernel
theorem dX4_needs_65 : decode cX4_needs 65 = .ok (.aload_n 0, 1) := by decide +kernel
theorem dX4_needs_66 : decode cX4_needs 66 = .ok (.iload 4, 2) := by decide +kernel
theorem dX4_needs_68 : decode cX4_needs 68 = .ok (.invokevirtual 141, 3) := by decide +kernel
theorem dX4_needs_71 : decode cX4_needs 71 = .ok (.goto 4, 3) := by decide +kernel
theorem dX4_needs_74 : decode cX4_needs 74 = .ok (.iconst 0, 1) := by decide +kernel
theorem dX4_needs_75 : decode cX4_needs 75 = .ok (.ior, 1) := by decide +kernel
theorem dX4_needs_76 : decode cX4_needs 76 = .ok (.istore_n 2, 1) := by decide +kernel
theorem dX4_needs_77 : decode cX4_needs 77 = .ok (.iinc 4 1, 3) := by decide +kernel
theorem dX4_needs_80 : decode cX4_needs 80 = .ok (.goto (-35), 3) := by decide +kernel
theorem dX4_needs_83 : decode cX4_needs 83 = .ok (.iinc 3 1, 3) := by decide +kernel
theorem dX4_needs_86 : decode cX4_needs 86 = .ok (.goto (-52), 3) := by decide +kernel
theorem dX4_needs_89 : decode cX4_needs 89 = .ok (.iload_n 2, 1) := by decide +kernel
theorem dX4_needs_90 : decode cX4_needs 90 = .ok (.ireturn, 1) := by decide +kernel
theorem dX4_fail_0 : decode cX4_fail 0 = .ok (.aload_n 0, 1) := by decide +kernel
theorem dX4_fail_1 : decode cX4_fail 1 = .ok (.iload_n 1, 1) := by decide +kernel
theorem dX4_fail_2 : decode cX4_fail 2 = .ok (.putfield 144, 3) := by decide +kernel
theorem dX4_fail_5 : decode cX4_fail 5 = .ok (.aload_n 0, 1) := by decide +kernel
theorem dX4_fail_6 : decode cX4_fail 6 = .ok (.iload_n 2, 1) := by decide +kernel
theorem dX4_fail_7 : decode cX4_fail 7 = .ok (.putfield 147, 3) := by decide +kernel
theorem dX4_fail_10 : decode cX4_fail 10 = .ok (.return_, 1) := by decide +kernel
theorem dX4_construct_0 : decode cX4_construct 0 = .ok (.aload_n 0, 1) := by decide +kernel
theorem dX4_construct_1 : decode cX4_construct 1 = .ok (.iload_n 1, 1) := by decide +kernel
theorem dX4_construct_2 : decode cX4_construct 2 = .ok (.invokevirtual 127, 3) := by decide +kernel
theorem dX4_construct_5 : decode cX4_construct 5 = .ok (.ifCond .eq 10, 3) := by decide +kernel
theorem dX4_construct_8 : decode cX4_construct 8 = .ok (.aload_n 0, 1) := by decide +kernel
theorem dX4_construct_9 : decode cX4_construct 9 = .ok (.iconst 3, 1) := by decide +kernel
theorem dX4_construct_10 : decode cX4_construct 10 = .ok (.iload_n 1, 1) := by decide +kernel
theorem dX4_construct_11 : decode cX4_construct 11 = .ok (.invokevirtual 150, 3) := by decide +kernel
theorem dX4_construct_14 : decode cX4_construct 14 = .ok (.return_, 1) := by decide +kernel
theorem dX4_construct_15 : decode cX4_construct 15 = .ok (.aload_n 0, 1) := by decide +kernel
theorem dX4_construct_16 : decode cX4_construct 16 = .ok (.iload_n 1, 1) := by decide +kernel
theorem dX4_construct_17 : decode cX4_construct 17 = .ok (.invokevirtual 130, 3) := by decide +kernel
theorem dX4_construct_20 : decode cX4_construct 20 = .ok (.aload_n 0, 1) := by decide +kernel
theorem dX4_construct_21 : decode cX4_construct 21 = .ok (.getfield 56, 3) := by decide +kernel
theorem dX4_construct_24 : decode cX4_construct 24 = .ok (.aload_n 0, 1) := by decide +kernel
theorem dX4_construct_25 : decode cX4_construct 25 = .ok (.getfield 121, 3) := by decide +kernel
theorem dX4_construct_28 : decode cX4_construct 28 = .ok (.iconst 1, 1) := by decide +kernel
theorem dX4_construct_29 : decode cX4_construct 29 = .ok (.isub, 1) := by decide +kernel
theorem dX4_construct_30 : decode cX4_construct 30 = .ok (.iload_n 2, 1) := by decide +kernel
theorem dX4_construct_31 : decode cX4_construct 31 = .ok (.iastore, 1) := by decide +kernel
theorem dX4_construct_32 : decode cX4_construct 32 = .ok (.aload_n 0, 1) := by decide +kernel
theorem dX4_construct_33 : decode cX4_construct 33 = .ok (.getfield 59, 3) := by decide +kernel
theorem dX4_construct_36 : decode cX4_construct 36 = .ok (.aload_n 0, 1) := by decide +kernel
theorem dX4_construct_37 : decode cX4_construct 37 = .ok (.getfield 121, 3) := by decide +kernel
theorem dX4_construct_40 : decode cX4_construct 40 = .ok (.iconst 1, 1) := by decide +kernel
theorem dX4_construct_41 : decode cX4_construct 41 = .ok (.isub, 1) := by decide +kernel
theorem dX4_construct_42 : decode cX4_construct 42 = .ok (.iconst 0, 1) := by decide +kernel
theorem dX4_construct_43 : decode cX4_construct 43 = .ok (.bastore, 1) := by decide +kernel
theorem dX4_construct_44 : decode cX4_construct 44 = .ok (.return_, 1) := by decide +kernel
theorem dX4_living_0 : decode cX4_living 0 = .ok (.iconst (-1), 1) := by decide +kernel
theorem dX4_living_1 : decode cX4_living 1 = .ok (.istore_n 3, 1) := by decide +kernel
theorem dX4_living_2 : decode cX4_living 2 = .ok (.iconst 0, 1) := by decide +kernel
theorem dX4_living_3 : decode cX4_living 3 = .ok (.istore 4, 2) := by decide +kernel
theorem dX4_living_5 : decode cX4_living 5 = .ok (.iload 4, 2) := by decide +kernel
theorem dX4_living_7 : decode cX4_living 7 = .ok (.aload_n 0, 1) := by decide +kernel
theorem dX4_living_8 : decode cX4_living 8 = .ok (.getfield 154, 3) := by decide +kernel
theorem dX4_living_11 : decode cX4_living 11 = .ok (.if_icmp .ge 78, 3) := by decide +kernel
theorem dX4_living_14 : decode cX4_living 14 = .ok (.aload_n 0, 1) := by decide +kernel
theorem dX4_living_15 : decode cX4_living 15 = .ok (.getfield 40, 3) := by decide +kernel
theorem dX4_living_18 : decode cX4_living 18 = .ok (.iload 4, 2) := by decide +kernel
theorem dX4_living_20 : decode cX4_living 20 = .ok (.baload, 1) := by decide +kernel
theorem dX4_living_21 : decode cX4_living 21 = .ok (.ifCond .eq 47, 3) := by decide +kernel
theorem dX4_living_24 : decode cX4_living 24 = .ok (.aload_n 0, 1) := by decide +kernel
theorem dX4_living_25 : decode cX4_living 25 = .ok (.getfield 31, 3) := by decide +kernel
theorem dX4_living_28 : decode cX4_living 28 = .ok (.iload 4, 2) := by decide +kernel
theorem dX4_living_30 : decode cX4_living 30 = .ok (.iaload, 1) := by decide +kernel
theorem dX4_living_31 : decode cX4_living 31 = .ok (.iload_n 1, 1) := by decide +kernel
theorem dX4_living_32 : decode cX4_living 32 = .ok (.if_icmp .ne 36, 3) := by decide +kernel
theorem dX4_living_35 : decode cX4_living 35 = .ok (.aload_n 0, 1) := by decide +kernel
theorem dX4_living_36 : decode cX4_living 36 = .ok (.getfield 34, 3) := by decide +kernel
theorem dX4_living_39 : decode cX4_living 39 = .ok (.iload 4, 2) := by decide +kernel
theorem dX4_living_41 : decode cX4_living 41 = .ok (.iaload, 1) := by decide +kernel
theorem dX4_living_42 : decode cX4_living 42 = .ok (.iload_n 2, 1) := by decide +kernel
theorem dX4_living_43 : decode cX4_living 43 = .ok (.if_icmp .ne 25, 3) := by decide +kernel
theorem dX4_living_46 : decode cX4_living 46 = .ok (.iload_n 2, 1) := by decide +kernel
theorem dX4_living_47 : decode cX4_living 47 = .ok (.ifCond .eq 17, 3) := by decide +kernel
theorem dX4_living_50 : decode cX4_living 50 = .ok (.aload_n 0, 1) := by decide +kernel
theorem dX4_living_51 : decode cX4_living 51 = .ok (.getfield 37, 3) := by decide +kernel
theorem dX4_living_54 : decode cX4_living 54 = .ok (.iload 4, 2) := by decide +kernel
theorem dX4_living_56 : decode cX4_living 56 = .ok (.iaload, 1) := by decide +kernel
theorem dX4_living_57 : decode cX4_living 57 = .ok (.aload_n 0, 1) := by decide +kernel
theorem dX4_living_58 : decode cX4_living 58 = .ok (.getfield 157, 3) := by decide +kernel
theorem dX4_living_61 : decode cX4_living 61 = .ok (.if_icmp .ne 7, 3) := by decide +kernel
theorem dX4_living_64 : decode cX4_living 64 = .ok (.iconst 1, 1) := by decide +kernel
theorem dX4_living_65 : decode cX4_living 65 = .ok (.goto 4, 3) := by decide +kernel
theorem dX4_living_68 : decode cX4_living 68 = .ok (.iconst 0, 1) := by decide +kernel
theorem dX4_living_69 : decode cX4_living 69 = .ok (.istore 5, 2) := by decide +kernel
theorem dX4_living_71 : decode cX4_living 71 = .ok (.iload 5, 2) := by decide +kernel
theorem dX4_living_73 : decode cX4_living 73 = .ok (.ifCond .eq 8, 3) := by decide +kernel
theorem dX4_living_76 : decode cX4_living 76 = .ok (.iload 4, 2) := by decide +kernel
theorem dX4_living_78 : decode cX4_living 78 = .ok (.goto 4, 3) := by decide +kernel
theorem dX4_living_81 : decode cX4_living 81 = .ok (.iload_n 3, 1) := by decide +kernel
theorem dX4_living_82 : decode cX4_living 82 = .ok (.istore_n 3, 1) := by decide +kernel
theorem dX4_living_83 : decode cX4_living 83 = .ok (.iinc 4 1, 3) := by decide +kernel
theorem dX4_living_86 : decode cX4_living 86 = .ok (.goto (-81), 3) := by decide +kernel
theorem dX4_living_89 : decode cX4_living 89 = .ok (.iload_n 3, 1) := by decide +kernel
theorem dX4_living_90 : decode cX4_living 90 = .ok (.ireturn, 1) := by decide +kernel
theorem dX4_obtain_0 : decode cX4_obtain 0 = .ok (.aload_n 0, 1) := by decide +kernel
theorem dX4_obtain_1 : decode cX4_obtain 1 = .ok (.iload_n 1, 1) := by decide +kernel
theorem dX4_obtain_2 : decode cX4_obtain 2 = .ok (.iconst 1, 1) := by decide +kernel
theorem dX4_obtain_3 : decode cX4_obtain 3 = .ok (.invokevirtual 91, 3) := by decide +kernel
theorem dX4_obtain_6 : decode cX4_obtain 6 = .ok (.istore_n 2, 1) := by decide +kernel
theorem dX4_obtain_7 : decode cX4_obtain 7 = .ok (.aload_n 0, 1) := by decide +kernel
theorem dX4_obtain_8 : decode cX4_obtain 8 = .ok (.iconst (-1), 1) := by decide +kernel
theorem dX4_obtain_9 : decode cX4_obtain 9 = .ok (.putfield 160, 3) := by decide +kernel
theorem dX4_obtain_12 : decode cX4_obtain 12 = .ok (.iload_n 2, 1) := by decide +kernel
theorem dX4_obtain_13 : decode cX4_obtain 13 = .ok (.iconst 2, 1) := by decide +kernel
theorem dX4_obtain_14 : decode cX4_obtain 14 = .ok (.if_icmp .ne 17, 3) := by decide +kernel
theorem dX4_obtain_17 : decode cX4_obtain 17 = .ok (.aload_n 0, 1) := by decide +kernel
theorem dX4_obtain_18 : decode cX4_obtain 18 = .ok (.getfield 157, 3) := by decide +kernel
theorem dX4_obtain_21 : decode cX4_obtain 21 = .ok (.ifCond .ne 10, 3) := by decide +kernel
theorem dX4_obtain_24 : decode cX4_obtain 24 = .ok (.aload_n 0, 1) := by decide +kernel
theorem dX4_obtain_25 : decode cX4_obtain 25 = .ok (.iconst 4, 1) := by decide +kernel
theorem dX4_obtain_26 : decode cX4_obtain 26 = .ok (.iload_n 1, 1) := by decide +kernel
theorem dX4_obtain_27 : decode cX4_obtain 27 = .ok (.invokevirtual 150, 3) := by decide +kernel
theorem dX4_obtain_30 : decode cX4_obtain 30 = .ok (.return_, 1) := by decide +kernel
theorem dX4_obtain_31 : decode cX4_obtain 31 = .ok (.aload_n 0, 1) := by decide +kernel
theorem dX4_obtain_32 : decode cX4_obtain 32 = .ok (.iload_n 2, 1) := by decide +kernel
theorem dX4_obtain_33 : decode cX4_obtain 33 = .ok (.iconst 1, 1) := by decide +kernel
theorem dX4_obtain_34 : decode cX4_obtain 34 = .ok (.if_icmp .ne 7, 3) := by decide +kernel
theorem dX4_obtain_37 : decode cX4_obtain 37 = .ok (.iconst (-1), 1) := by decide +kernel
theorem dX4_obtain_38 : decode cX4_obtain 38 = .ok (.goto 9, 3) := by decide +kernel
theorem dX4_obtain_41 : decode cX4_obtain 41 = .ok (.aload_n 0, 1) := by decide +kernel
theorem dX4_obtain_42 : decode cX4_obtain 42 = .ok (.iload_n 1, 1) := by decide +kernel
theorem dX4_obtain_43 : decode cX4_obtain 43 = .ok (.iload_n 2, 1) := by decide +kernel
theorem dX4_obtain_44 : decode cX4_obtain 44 = .ok (.invokevirtual 163, 3) := by decide +kernel
theorem dX4_obtain_47 : decode cX4_obtain 47 = .ok (.putfield 160, 3) := by decide +kernel
theorem dX4_obtain_50 : decode cX4_obtain 50 = .ok (.aload_n 0, 1) := by decide +kernel
theorem dX4_obtain_51 : decode cX4_obtain 51 = .ok (.getfield 160, 3) := by decide +kernel
theorem dX4_obtain_54 : decode cX4_obtain 54 = .ok (.ifCond .ge 9, 3) := by decide +kernel
theorem dX4_obtain_57 : decode cX4_obtain 57 = .ok (.aload_n 0, 1) := by decide +kernel
theorem dX4_obtain_58 : decode cX4_obtain 58 = .ok (.iload_n 1, 1) := by decide +kernel
theorem dX4_obtain_59 : decode cX4_obtain 59 = .ok (.iload_n 2, 1) := by decide +kernel
theorem dX4_obtain_60 : decode cX4_obtain 60 = .ok (.invokevirtual 166, 3) := by decide +kernel
theorem dX4_obtain_63 : decode cX4_obtain 63 = .ok (.return_, 1) := by decide +kernel
theorem dX4_inject_0 : decode cX4_inject 0 = .ok (.aload_n 0, 1) := by decide +kernel
theorem dX4_inject_1 : decode cX4_inject 1 = .ok (.getfield 65, 3) := by decide +kernel
theorem dX4_inject_4 : decode cX4_inject 4 = .ok (.bipush 6, 2) := by decide +kernel
theorem dX4_inject_6 : decode cX4_inject 6 = .ok (.iload_n 1, 1) := by decide +kernel
theorem dX4_inject_7 : decode cX4_inject 7 = .ok (.imul, 1) := by decide +kernel
theorem dX4_inject_8 : decode cX4_inject 8 = .ok (.aload_n 0, 1) := by decide +kernel
theorem dX4_inject_9 : decode cX4_inject 9 = .ok (.getfield 25, 3) := by decide +kernel
theorem dX4_inject_12 : decode cX4_inject 12 = .ok (.iload_n 1, 1) := by decide +kernel
theorem dX4_inject_13 : decode cX4_inject 13 = .ok (.iaload, 1) := by decide +kernel
theorem dX4_inject_14 : decode cX4_inject 14 = .ok (.iadd, 1) := by decide +kernel
theorem dX4_inject_15 : decode cX4_inject 15 = .ok (.iload_n 2, 1) := by decide +kernel
theorem dX4_inject_16 : decode cX4_inject 16 = .ok (.iastore, 1) := by decide +kernel
theorem dX4_inject_17 : decode cX4_inject 17 = .ok (.aload_n 0, 1) := by decide +kernel
theorem dX4_inject_18 : decode cX4_inject 18 = .ok (.getfield 25, 3) := by decide +kernel
theorem dX4_inject_21 : decode cX4_inject 21 = .ok (.iload_n 1, 1) := by decide +kernel
theorem dX4_inject_22 : decode cX4_inject 22 = .ok (.dup2, 1) := by decide +kernel
theorem dX4_inject_23 : decode cX4_inject 23 = .ok (.iaload, 1) := by decide +kernel
theorem dX4_inject_24 : decode cX4_inject 24 = .ok (.iconst 1, 1) := by decide +kernel
theorem dX4_inject_25 : decode cX4_inject 25 = .ok (.iadd, 1) := by decide +kernel
theorem dX4_inject_26 : decode cX4_inject 26 = .ok (.iastore, 1) := by decide +kernel
theorem dX4_inject_27 : decode cX4_inject 27 = .ok (.return_, 1) := by decide +kernel
theorem dX4_serve_0 : decode cX4_serve 0 = .ok (.aload_n 0, 1) := by decide +kernel
theorem dX4_serve_1 : decode cX4_serve 1 = .ok (.getfield 22, 3) := by decide +kernel
theorem dX4_serve_4 : decode cX4_serve 4 = .ok (.iload_n 1, 1) := by decide +kernel
theorem dX4_serve_5 : decode cX4_serve 5 = .ok (.iaload, 1) := by decide +kernel
theorem dX4_serve_6 : decode cX4_serve 6 = .ok (.istore_n 2, 1) := by decide +kernel
theorem dX4_serve_7 : decode cX4_serve 7 = .ok (.aload_n 0, 1) := by decide +kernel
theorem dX4_serve_8 : decode cX4_serve 8 = .ok (.getfield 25, 3) := by decide +kernel
theorem dX4_serve_11 : decode cX4_serve 11 = .ok (.iload_n 1, 1) := by decide +kernel
theorem dX4_serve_12 : decode cX4_serve 12 = .ok (.iaload, 1) := by decide +kernel
theorem dX4_serve_13 : decode cX4_serve 13 = .ok (.istore_n 3, 1) := by decide +kernel
theorem dX4_serve_14 : decode cX4_serve 14 = .ok (.aload_n 0, 1) := by decide +kernel
theorem dX4_serve_15 : decode cX4_serve 15 = .ok (.iload_n 2, 1) := by decide +kernel
theorem dX4_serve_16 : decode cX4_serve 16 = .ok (.iload_n 3, 1) := by decide +kernel
theorem dX4_serve_17 : decode cX4_serve 17 = .ok (.iconst 2, 1) := by decide +kernel
theorem dX4_serve_18 : decode cX4_serve 18 = .ok (.invokevirtual 98, 3) := by decide +kernel
theorem dX4_serve_21 : decode cX4_serve 21 = .ok (.istore 4, 2) := by decide +kernel
theorem dX4_serve_23 : decode cX4_serve 23 = .ok (.aload_n 0, 1) := by decide +kernel
theorem dX4_serve_24 : decode cX4_serve 24 = .ok (.iload_n 2, 1) := by decide +kernel
theorem dX4_serve_25 : decode cX4_serve 25 = .ok (.iload_n 3, 1) := by decide +kernel
theorem dX4_serve_26 : decode cX4_serve 26 = .ok (.invokevirtual 134, 3) := by decide +kernel
theorem dX4_serve_29 : decode cX4_serve 29 = .ok (.istore 5, 2) := by decide +kernel
theorem dX4_serve_31 : decode cX4_serve 31 = .ok (.iload 5, 2) := by decide +kernel
theorem dX4_serve_33 : decode cX4_serve 33 = .ok (.ifCond .ge 20, 3) := by decide +kernel
theorem dX4_serve_36 : decode cX4_serve 36 = .ok (.aload_n 0, 1) := by decide +kernel
theorem dX4_serve_37 : decode cX4_serve 37 = .ok (.iload 5, 2) := by decide +kernel
theorem dX4_serve_39 : decode cX4_serve 39 = .ok (.ineg, 1) := by decide +kernel
theorem dX4_serve_40 : decode cX4_serve 40 = .ok (.aload_n 0, 1) := by decide +kernel
theorem dX4_serve_41 : decode cX4_serve 41 = .ok (.iload_n 2, 1) := by decide +kernel
theorem dX4_serve_42 : decode cX4_serve 42 = .ok (.iload_n 3, 1) := by decide +kernel
theorem dX4_serve_43 : decode cX4_serve 43 = .ok (.iconst 0, 1) := by decide +kernel
theorem dX4_serve_44 : decode cX4_serve 44 = .ok (.invokevirtual 98, 3) := by decide +kernel
theorem dX4_serve_47 : decode cX4_serve 47 = .ok (.invokevirtual 150, 3) := by decide +kernel
theorem dX4_serve_50 : decode cX4_serve 50 = .ok (.goto 62, 3) := by decide +kernel
theorem dX4_serve_53 : decode cX4_serve 53 = .ok (.iload 5, 2) := by decide +kernel
theorem dX4_serve_55 : decode cX4_serve 55 = .ok (.ifCond .ne 22, 3) := by decide +kernel
theorem dX4_serve_58 : decode cX4_serve 58 = .ok (.aload_n 0, 1) := by decide +kernel
theorem dX4_serve_59 : decode cX4_serve 59 = .ok (.iload_n 1, 1) := by decide +kernel
theorem dX4_serve_60 : decode cX4_serve 60 = .ok (.iload 4, 2) := by decide +kernel
theorem dX4_serve_62 : decode cX4_serve 62 = .ok (.iconst 2, 1) := by decide +kernel
theorem dX4_serve_63 : decode cX4_serve 63 = .ok (.if_icmp .ne 7, 3) := by decide +kernel
theorem dX4_serve_66 : decode cX4_serve 66 = .ok (.iconst 0, 1) := by decide +kernel
theorem dX4_serve_67 : decode cX4_serve 67 = .ok (.goto 4, 3) := by decide +kernel
theorem dX4_serve_70 : decode cX4_serve 70 = .ok (.iconst (-1), 1) := by decide +kernel
theorem dX4_serve_71 : decode cX4_serve 71 = .ok (.invokevirtual 169, 3) := by decide +kernel
theorem dX4_serve_74 : decode cX4_serve 74 = .ok (.goto 38, 3) := by decide +kernel
theorem dX4_serve_77 : decode cX4_serve 77 = .ok (.aload_n 0, 1) := by decide +kernel
theorem dX4_serve_78 : decode cX4_serve 78 = .ok (.getfield 28, 3) := by decide +kernel
theorem dX4_serve_81 : decode cX4_serve 81 = .ok (.iload_n 1, 1) := by decide +kernel
theorem dX4_serve_82 : decode cX4_serve 82 = .ok (.iload 5, 2) := by decide +kernel
theorem dX4_serve_84 : decode cX4_serve 84 = .ok (.iastore, 1) := by decide +kernel
theorem dX4_serve_85 : decode cX4_serve 85 = .ok (.aload_n 0, 1) := by decide +kernel
theorem dX4_serve_86 : decode cX4_serve 86 = .ok (.getfield 62, 3) := by decide +kernel
theorem dX4_serve_89 : decode cX4_serve 89 = .ok (.iload_n 1, 1) := by decide +kernel
theorem dX4_serve_90 : decode cX4_serve 90 = .ok (.iload 5, 2) := by decide +kernel
theorem dX4_serve_92 : decode cX4_serve 92 = .ok (.invokestatic 111, 3) := by decide +kernel
theorem dX4_serve_95 : decode cX4_serve 95 = .ok (.iastore, 1) := by decide +kernel
theorem dX4_serve_96 : decode cX4_serve 96 = .ok (.aload_n 0, 1) := by decide +kernel
theorem dX4_serve_97 : decode cX4_serve 97 = .ok (.getfield 59, 3) := by decide +kernel
theorem dX4_serve_100 : decode cX4_serve 100 = .ok (.iload_n 1, 1) := by decide +kernel
theorem dX4_serve_101 : decode cX4_serve 101 = .ok (.iconst 1, 1) := by decide +kernel
theorem dX4_serve_102 : decode cX4_serve 102 = .ok (.bastore, 1) := by decide +kernel
theorem dX4_serve_103 : decode cX4_serve 103 = .ok (.aload_n 0, 1) := by decide +kernel
theorem dX4_serve_104 : decode cX4_serve 104 = .ok (.iload 5, 2) := by decide +kernel
theorem dX4_serve_106 : decode cX4_serve 106 = .ok (.invokestatic 115, 3) := by decide +kernel
theorem dX4_serve_109 : decode cX4_serve 109 = .ok (.invokevirtual 172, 3) := by decide +kernel
theorem dX4_serve_112 : decode cX4_serve 112 = .ok (.return_, 1) := by decide +kernel
theorem dX4_receive_0 : decode cX4_receive 0 = .ok (.aload_n 0, 1) := by decide +kernel
theorem dX4_receive_1 : decode cX4_receive 1 = .ok (.getfield 28, 3) := by decide +kernel
theorem dX4_receive_4 : decode cX4_receive 4 = .ok (.iload_n 1, 1) := by decide +kernel
theorem dX4_receive_5 : decode cX4_receive 5 = .ok (.dup2, 1) := by decide +kernel
theorem dX4_receive_6 : decode cX4_receive 6 = .ok (.iaload, 1) := by decide +kernel
theorem dX4_receive_7 : decode cX4_receive 7 = .ok (.aload_n 0, 1) := by decide +kernel
theorem dX4_receive_8 : decode cX4_receive 8 = .ok (.getfield 28, 3) := by decide +kernel
theorem dX4_receive_11 : decode cX4_receive 11 = .ok (.iload_n 1, 1) := by decide +kernel
theorem dX4_receive_12 : decode cX4_receive 12 = .ok (.iaload, 1) := by decide +kernel
theorem dX4_receive_13 : decode cX4_receive 13 = .ok (.iconst 1, 1) := by decide +kernel
theorem dX4_receive_14 : decode cX4_receive 14 = .ok (.isub, 1) := by decide +kernel
theorem dX4_receive_15 : decode cX4_receive 15 = .ok (.iand, 1) := by decide +kernel
theorem dX4_receive_16 : decode cX4_receive 16 = .ok (.iastore, 1) := by decide +kernel
theorem dX4_receive_17 : decode cX4_receive 17 = .ok (.aload_n 0, 1) := by decide +kernel
theorem dX4_receive_18 : decode cX4_receive 18 = .ok (.getfield 28, 3) := by decide +kernel
theorem dX4_receive_21 : decode cX4_receive 21 = .ok (.iload_n 1, 1) := by decide +kernel
theorem dX4_receive_22 : decode cX4_receive 22 = .ok (.iaload, 1) := by decide +kernel
theorem dX4_receive_23 : decode cX4_receive 23 = .ok (.ifCond .eq 17, 3) := by decide +kernel
theorem dX4_receive_26 : decode cX4_receive 26 = .ok (.aload_n 0, 1) := by decide +kernel
theorem dX4_receive_27 : decode cX4_receive 27 = .ok (.aload_n 0, 1) := by decide +kernel
theorem dX4_receive_28 : decode cX4_receive 28 = .ok (.getfield 28, 3) := by decide +kernel
theorem dX4_receive_31 : decode cX4_receive 31 = .ok (.iload_n 1, 1) := by decide +kernel
theorem dX4_receive_32 : decode cX4_receive 32 = .ok (.iaload, 1) := by decide +kernel
theorem dX4_receive_33 : decode cX4_receive 33 = .ok (.invokestatic 115, 3) := by decide +kernel
theorem dX4_receive_36 : decode cX4_receive 36 = .ok (.invokevirtual 172, 3) := by decide +kernel
theorem dX4_receive_39 : decode cX4_receive 39 = .ok (.return_, 1) := by decide +kernel
theorem dX4_receive_40 : decode cX4_receive 40 = .ok (.aload_n 0, 1) := by decide +kernel
theorem dX4_receive_41 : decode cX4_receive 41 = .ok (.getfield 59, 3) := by decide +kernel
theorem dX4_receive_44 : decode cX4_receive 44 = .ok (.iload_n 1, 1) := by decide +kernel
theorem dX4_receive_45 : decode cX4_receive 45 = .ok (.iconst 0, 1) := by decide +kernel
theorem dX4_receive_46 : decode cX4_receive 46 = .ok (.bastore, 1) := by decide +kernel
theorem dX4_receive_47 : decode cX4_receive 47 = .ok (.aload_n 0, 1) := by decide +kernel
theorem dX4_receive_48 : decode cX4_receive 48 = .ok (.aload_n 0, 1) := by decide +kernel
theorem dX4_receive_49 : decode cX4_receive 49 = .ok (.getfield 22, 3) := by decide +kernel
theorem dX4_receive_52 : decode cX4_receive 52 = .ok (.iload_n 1, 1) := by decide +kernel
theorem dX4_receive_53 : decode cX4_receive 53 = .ok (.iaload, 1) := by decide +kernel
theorem dX4_receive_54 : decode cX4_receive 54 = .ok (.aload_n 0, 1) := by decide +kernel
theorem dX4_receive_55 : decode cX4_receive 55 = .ok (.getfield 25, 3) := by decide +kernel
theorem dX4_receive_58 : decode cX4_receive 58 = .ok (.iload_n 1, 1) := by decide +kernel
theorem dX4_receive_59 : decode cX4_receive 59 = .ok (.iaload, 1) := by decide +kernel
theorem dX4_receive_60 : decode cX4_receive 60 = .ok (.iconst 2, 1) := by decide +kernel
theorem dX4_receive_61 : decode cX4_receive 61 = .ok (.invokevirtual 98, 3) := by decide +kernel
theorem dX4_receive_64 : decode cX4_receive 64 = .ok (.istore_n 2, 1) := by decide +kernel
theorem dX4_receive_65 : decode cX4_receive 65 = .ok (.aload_n 0, 1) := by decide +kernel
theorem dX4_receive_66 : decode cX4_receive 66 = .ok (.iload_n 1, 1) := by decide +kernel
theorem dX4_receive_67 : decode cX4_receive 67 = .ok (.iload_n 2, 1) := by decide +kernel
theorem dX4_receive_68 : decode cX4_receive 68 = .ok (.iconst 2, 1) := by decide +kernel
theorem dX4_receive_69 : decode cX4_receive 69 = .ok (.if_icmp .ne 12, 3) := by decide +kernel
theorem dX4_receive_72 : decode cX4_receive 72 = .ok (.aload_n 0, 1) := by decide +kernel
theorem dX4_receive_73 : decode cX4_receive 73 = .ok (.getfield 62, 3) := by decide +kernel
theorem dX4_receive_76 : decode cX4_receive 76 = .ok (.iload_n 1, 1) := by decide +kernel
theorem dX4_receive_77 : decode cX4_receive 77 = .ok (.iaload, 1) := by decide +kernel
theorem dX4_receive_78 : decode cX4_receive 78 = .ok (.goto 7, 3) := by decide +kernel
theorem dX4_receive_81 : decode cX4_receive 81 = .ok (.aload_n 0, 1) := by decide +kernel
theorem dX4_receive_82 : decode cX4_receive 82 = .ok (.getfield 160, 3) := by decide +kernel
theorem dX4_receive_85 : decode cX4_receive 85 = .ok (.invokevirtual 169, 3) := by decide +kernel
theorem dX4_receive_88 : decode cX4_receive 88 = .ok (.return_, 1) := by decide +kernel
theorem dX4_note_0 : decode cX4_note 0 = .ok (.aload_n 0, 1) := by decide +kernel
theorem dX4_note_1 : decode cX4_note 1 = .ok (.getfield 50, 3) := by decide +kernel
theorem dX4_note_4 : decode cX4_note 4 = .ok (.aload_n 0, 1) := by decide +kernel
theorem dX4_note_5 : decode cX4_note 5 = .ok (.getfield 175, 3) := by decide +kernel
theorem dX4_note_8 : decode cX4_note 8 = .ok (.iload_n 1, 1) := by decide +kernel
theorem dX4_note_9 : decode cX4_note 9 = .ok (.iastore, 1) := by decide +kernel
theorem dX4_note_10 : decode cX4_note 10 = .ok (.aload_n 0, 1) := by decide +kernel
theorem dX4_note_11 : decode cX4_note 11 = .ok (.dup, 1) := by decide +kernel
theorem dX4_note_12 : decode cX4_note 12 = .ok (.getfield 175, 3) := by decide +kernel
theorem dX4_note_15 : decode cX4_note 15 = .ok (.iconst 1, 1) := by decide +kernel
theorem dX4_note_16 : decode cX4_note 16 = .ok (.iadd, 1) := by decide +kernel
theorem dX4_note_17 : decode cX4_note 17 = .ok (.putfield 175, 3) := by decide +kernel
theorem dX4_note_20 : decode cX4_note 20 = .ok (.return_, 1) := by decide +kernel
theorem dX4_complete_0 : decode cX4_complete 0 = .ok (.aload_n 0, 1) := by decide +kernel
theorem dX4_complete_1 : decode cX4_complete 1 = .ok (.getfield 22, 3) := by decide +kernel
theorem dX4_complete_4 : decode cX4_complete 4 = .ok (.iload_n 1, 1) := by decide +kernel
theorem dX4_complete_5 : decode cX4_complete 5 = .ok (.iaload, 1) := by decide +kernel
theorem dX4_complete_6 : decode cX4_complete 6 = .ok (.istore_n 2, 1) := by decide +kernel
theorem dX4_complete_7 : decode cX4_complete 7 = .ok (.aload_n 0, 1) := by decide +kernel
theorem dX4_complete_8 : decode cX4_complete 8 = .ok (.getfield 154, 3) := by decide +kernel
theorem dX4_complete_11 : decode cX4_complete 11 = .ok (.sipush 300, 3) := by decide +kernel
theorem dX4_complete_14 : decode cX4_complete 14 = .ok (.if_icmp .ne 10, 3) := by decide +kernel
theorem dX4_complete_17 : decode cX4_complete 17 = .ok (.aload_n 0, 1) := by decide +kernel
theorem dX4_complete_18 : decode cX4_complete 18 = .ok (.iconst 5, 1) := by decide +kernel
theorem dX4_complete_19 : decode cX4_complete 19 = .ok (.iload_n 2, 1) := by decide +kernel
theorem dX4_complete_20 : decode cX4_complete 20 = .ok (.invokevirtual 150, 3) := by decide +kernel
theorem dX4_complete_23 : decode cX4_complete 23 = .ok (.return_, 1) := by decide +kernel
theorem dX4_complete_24 : decode cX4_complete 24 = .ok (.aload_n 0, 1) := by decide +kernel
theorem dX4_complete_25 : decode cX4_complete 25 = .ok (.iload_n 2, 1) := by decide +kernel
theorem dX4_complete_26 : decode cX4_complete 26 = .ok (.bipush 6, 2) := by decide +kernel
theorem dX4_complete_28 : decode cX4_complete 28 = .ok (.invokevirtual 91, 3) := by decide +kernel
theorem dX4_complete_31 : decode cX4_complete 31 = .ok (.iconst (-1), 1) := by decide +kernel
theorem dX4_complete_32 : decode cX4_complete 32 = .ok (.if_icmp .eq 27, 3) := by decide +kernel
theorem dX4_complete_35 : decode cX4_complete 35 = .ok (.aload_n 0, 1) := by decide +kernel
theorem dX4_complete_36 : decode cX4_complete 36 = .ok (.getfield 19, 3) := by decide +kernel
theorem dX4_complete_39 : decode cX4_complete 39 = .ok (.iload_n 2, 1) := by decide +kernel
theorem dX4_complete_40 : decode cX4_complete 40 = .ok (.iaload, 1) := by decide +kernel
theorem dX4_complete_41 : decode cX4_complete 41 = .ok (.aload_n 0, 1) := by decide +kernel
theorem dX4_complete_42 : decode cX4_complete 42 = .ok (.iload_n 2, 1) := by decide +kernel
theorem dX4_complete_43 : decode cX4_complete 43 = .ok (.bipush 6, 2) := by decide +kernel
theorem dX4_complete_45 : decode cX4_complete 45 = .ok (.invokevirtual 91, 3) := by decide +kernel
theorem dX4_complete_48 : decode cX4_complete 48 = .ok (.if_icmp .lt 11, 3) := by decide +kernel
theorem dX4_complete_51 : decode cX4_complete 51 = .ok (.aload_n 0, 1) := by decide +kernel
theorem dX4_complete_52 : decode cX4_complete 52 = .ok (.bipush 6, 2) := by decide +kernel
theorem dX4_complete_54 : decode cX4_complete 54 = .ok (.iload_n 2, 1) := by decide +kernel
theorem dX4_complete_55 : decode cX4_complete 55 = .ok (.invokevirtual 150, 3) := by decide +kernel
theorem dX4_complete_58 : decode cX4_complete 58 = .ok (.return_, 1) := by decide +kernel
theorem dX4_complete_59 : decode cX4_complete 59 = .ok (.aload_n 0, 1) := by decide +kernel
theorem dX4_complete_60 : decode cX4_complete 60 = .ok (.getfield 154, 3) := by decide +kernel
theorem dX4_complete_63 : decode cX4_complete 63 = .ok (.istore_n 3, 1) := by decide +kernel
theorem dX4_complete_64 : decode cX4_complete 64 = .ok (.aload_n 0, 1) := by decide +kernel
theorem dX4_complete_65 : decode cX4_complete 65 = .ok (.getfield 31, 3) := by decide +kernel
theorem dX4_complete_68 : decode cX4_complete 68 = .ok (.iload_n 3, 1) := by decide +kernel
theorem dX4_complete_69 : decode cX4_complete 69 = .ok (.iload_n 2, 1) := by decide +kernel
theorem dX4_complete_70 : decode cX4_complete 70 = .ok (.iastore, 1) := by decide +kernel
theorem dX4_complete_71 : decode cX4_complete 71 = .ok (.aload_n 0, 1) := by decide +kernel
theorem dX4_complete_72 : decode cX4_complete 72 = .ok (.getfield 34, 3) := by decide +kernel
theorem dX4_complete_75 : decode cX4_complete 75 = .ok (.iload_n 3, 1) := by decide +kernel
theorem dX4_complete_76 : decode cX4_complete 76 = .ok (.aload_n 0, 1) := by decide +kernel
theorem dX4_complete_77 : decode cX4_complete 77 = .ok (.getfield 56, 3) := by decide +kernel
theorem dX4_complete_80 : decode cX4_complete 80 = .ok (.iload_n 1, 1) := by decide +kernel
theorem dX4_complete_81 : decode cX4_complete 81 = .ok (.iaload, 1) := by decide +kernel
theorem dX4_complete_82 : decode cX4_complete 82 = .ok (.iastore, 1) := by decide +kernel
theorem dX4_complete_83 : decode cX4_complete 83 = .ok (.aload_n 0, 1) := by decide +kernel
theorem dX4_complete_84 : decode cX4_complete 84 = .ok (.getfield 37, 3) := by decide +kernel
theorem dX4_complete_87 : decode cX4_complete 87 = .ok (.iload_n 3, 1) := by decide +kernel
theorem dX4_complete_88 : decode cX4_complete 88 = .ok (.aload_n 0, 1) := by decide +kernel
theorem dX4_complete_89 : decode cX4_complete 89 = .ok (.getfield 56, 3) := by decide +kernel
theorem dX4_complete_92 : decode cX4_complete 92 = .ok (.iload_n 1, 1) := by decide +kernel
theorem dX4_complete_93 : decode cX4_complete 93 = .ok (.iaload, 1) := by decide +kernel
theorem dX4_complete_94 : decode cX4_complete 94 = .ok (.iconst 2, 1) := by decide +kernel
theorem dX4_complete_95 : decode cX4_complete 95 = .ok (.if_icmp .ne 10, 3) := by decide +kernel
theorem dX4_complete_98 : decode cX4_complete 98 = .ok (.aload_n 0, 1) := by decide +kernel
theorem dX4_complete_99 : decode cX4_complete 99 = .ok (.getfield 157, 3) := by decide +kernel
theorem dX4_complete_102 : decode cX4_complete 102 = .ok (.goto 4, 3) := by decide +kernel
theorem dX4_complete_105 : decode cX4_complete 105 = .ok (.iconst 0, 1) := by decide +kernel
theorem dX4_complete_106 : decode cX4_complete 106 = .ok (.iastore, 1) := by decide +kernel
theorem dX4_complete_107 : decode cX4_complete 107 = .ok (.aload_n 0, 1) := by decide +kernel
theorem dX4_complete_108 : decode cX4_complete 108 = .ok (.getfield 40, 3) := by decide +kernel
theorem dX4_complete_111 : decode cX4_complete 111 = .ok (.iload_n 3, 1) := by decide +kernel
theorem dX4_complete_112 : decode cX4_complete 112 = .ok (.iconst 1, 1) := by decide +kernel
theorem dX4_complete_113 : decode cX4_complete 113 = .ok (.bastore, 1) := by decide +kernel
theorem dX4_complete_114 : decode cX4_complete 114 = .ok (.aload_n 0, 1) := by decide +kernel
theorem dX4_complete_115 : decode cX4_complete 115 = .ok (.getfield 44, 3) := by decide +kernel
theorem dX4_complete_118 : decode cX4_complete 118 = .ok (.iload_n 3, 1) := by decide +kernel
theorem dX4_complete_119 : decode cX4_complete 119 = .ok (.aload_n 0, 1) := by decide +kernel
theorem dX4_complete_120 : decode cX4_complete 120 = .ok (.getfield 13, 3) := by decide +kernel
theorem dX4_complete_123 : decode cX4_complete 123 = .ok (.iload_n 2, 1) := by decide +kernel
theorem dX4_complete_124 : decode cX4_complete 124 = .ok (.iaload, 1) := by decide +kernel
theorem dX4_complete_125 : decode cX4_complete 125 = .ok (.iastore, 1) := by decide +kernel
theorem dX4_complete_126 : decode cX4_complete 126 = .ok (.iconst 0, 1) := by decide +kernel
theorem dX4_complete_127 : decode cX4_complete 127 = .ok (.istore 4, 2) := by decide +kernel
theorem dX4_complete_129 : decode cX4_complete 129 = .ok (.iload 4, 2) := by decide +kernel
theorem dX4_complete_131 : decode cX4_complete 131 = .ok (.bipush 6, 2) := by decide +kernel
theorem dX4_complete_133 : decode cX4_complete 133 = .ok (.if_icmp .ge 33, 3) := by decide +kernel
theorem dX4_complete_136 : decode cX4_complete 136 = .ok (.aload_n 0, 1) := by decide +kernel
theorem dX4_complete_137 : decode cX4_complete 137 = .ok (.getfield 47, 3) := by decide +kernel
theorem dX4_complete_140 : decode cX4_complete 140 = .ok (.bipush 6, 2) := by decide +kernel
theorem dX4_complete_142 : decode cX4_complete 142 = .ok (.iload_n 3, 1) := by decide +kernel
theorem dX4_complete_143 : decode cX4_complete 143 = .ok (.imul, 1) := by decide +kernel
theorem dX4_complete_144 : decode cX4_complete 144 = .ok (.iload 4, 2) := by decide +kernel
theorem dX4_complete_146 : decode cX4_complete 146 = .ok (.iadd, 1) := by decide +kernel
theorem dX4_complete_147 : decode cX4_complete 147 = .ok (.aload_n 0, 1) := by decide +kernel
theorem dX4_complete_148 : decode cX4_complete 148 = .ok (.getfield 65, 3) := by decide +kernel
theorem dX4_complete_151 : decode cX4_complete 151 = .ok (.bipush 6, 2) := by decide +kernel
theorem dX4_complete_153 : decode cX4_complete 153 = .ok (.iload_n 1, 1) := by decide +kernel
theorem dX4_complete_154 : decode cX4_complete 154 = .ok (.imul, 1) := by decide +kernel
theorem dX4_complete_155 : decode cX4_complete 155 = .ok (.iload 4, 2) := by decide +kernel
theorem dX4_complete_157 : decode cX4_complete 157 = .ok (.iadd, 1) := by decide +kernel
theorem dX4_complete_158 : decode cX4_complete 158 = .ok (.iaload, 1) := by decide +kernel
theorem dX4_complete_159 : decode cX4_complete 159 = .ok (.iastore, 1) := by decide +kernel
theorem dX4_complete_160 : decode cX4_complete 160 = .ok (.iinc 4 1, 3) := by decide +kernel
theorem dX4_complete_163 : decode cX4_complete 163 = .ok (.goto (-34), 3) := by decide +kernel
theorem dX4_complete_166 : decode cX4_complete 166 = .ok (.aload_n 0, 1) := by decide +kernel
theorem dX4_complete_167 : decode cX4_complete 167 = .ok (.iconst 2, 1) := by decide +kernel
theorem dX4_complete_168 : decode cX4_complete 168 = .ok (.iload_n 3, 1) := by decide +kernel
theorem dX4_complete_169 : decode cX4_complete 169 = .ok (.imul, 1) := by decide +kernel
theorem dX4_complete_170 : decode cX4_complete 170 = .ok (.invokevirtual 178, 3) := by decide +kernel
theorem dX4_complete_173 : decode cX4_complete 173 = .ok (.aload_n 0, 1) := by decide +kernel
theorem dX4_complete_174 : decode cX4_complete 174 = .ok (.getfield 19, 3) := by decide +kernel
theorem dX4_complete_177 : decode cX4_complete 177 = .ok (.iload_n 2, 1) := by decide +kernel
theorem dX4_complete_178 : decode cX4_complete 178 = .ok (.dup2, 1) := by decide +kernel
theorem dX4_complete_179 : decode cX4_complete 179 = .ok (.iaload, 1) := by decide +kernel
theorem dX4_complete_180 : decode cX4_complete 180 = .ok (.iconst 1, 1) := by decide +kernel
theorem dX4_complete_181 : decode cX4_complete 181 = .ok (.iadd, 1) := by decide +kernel
theorem dX4_complete_182 : decode cX4_complete 182 = .ok (.iastore, 1) := by decide +kernel
theorem dX4_complete_183 : decode cX4_complete 183 = .ok (.aload_n 0, 1) := by decide +kernel
theorem dX4_complete_184 : decode cX4_complete 184 = .ok (.dup, 1) := by decide +kernel
theorem dX4_complete_185 : decode cX4_complete 185 = .ok (.getfield 154, 3) := by decide +kernel
theorem dX4_complete_188 : decode cX4_complete 188 = .ok (.iconst 1, 1) := by decide +kernel
theorem dX4_complete_189 : decode cX4_complete 189 = .ok (.iadd, 1) := by decide +kernel
theorem dX4_complete_190 : decode cX4_complete 190 = .ok (.putfield 154, 3) := by decide +kernel
theorem dX4_complete_193 : decode cX4_complete 193 = .ok (.aload_n 0, 1) := by decide +kernel
theorem dX4_complete_194 : decode cX4_complete 194 = .ok (.dup, 1) := by decide +kernel
theorem dX4_complete_195 : decode cX4_complete 195 = .ok (.getfield 121, 3) := by decide +kernel
theorem dX4_complete_198 : decode cX4_complete 198 = .ok (.iconst 1, 1) := by decide +kernel
theorem dX4_complete_199 : decode cX4_complete 199 = .ok (.isub, 1) := by decide +kernel
theorem dX4_complete_200 : decode cX4_complete 200 = .ok (.putfield 121, 3) := by decide +kernel
theorem dX4_complete_203 : decode cX4_complete 203 = .ok (.aload_n 0, 1) := by decide +kernel
theorem dX4_complete_204 : decode cX4_complete 204 = .ok (.iload_n 3, 1) := by decide +kernel
theorem dX4_complete_205 : decode cX4_complete 205 = .ok (.putfield 160, 3) := by decide +kernel
theorem dX4_complete_208 : decode cX4_complete 208 = .ok (.return_, 1) := by decide +kernel
theorem dX4_goOn_0 : decode cX4_goOn 0 = .ok (.aload_n 0, 1) := by decide +kernel
theorem dX4_goOn_1 : decode cX4_goOn 1 = .ok (.getfield 121, 3) := by decide +kernel
theorem dX4_goOn_4 : decode cX4_goOn 4 = .ok (.iconst 1, 1) := by decide +kernel
theorem dX4_goOn_5 : decode cX4_goOn 5 = .ok (.isub, 1) := by decide +kernel
theorem dX4_goOn_6 : decode cX4_goOn 6 = .ok (.istore_n 1, 1) := by decide +kernel
theorem dX4_goOn_7 : decode cX4_goOn 7 = .ok (.aload_n 0, 1) := by decide +kernel
theorem dX4_goOn_8 : decode cX4_goOn 8 = .ok (.getfield 59, 3) := by decide +kernel
theorem dX4_goOn_11 : decode cX4_goOn 11 = .ok (.iload_n 1, 1) := by decide +kernel
theorem dX4_goOn_12 : decode cX4_goOn 12 = .ok (.baload, 1) := by decide +kernel
theorem dX4_goOn_13 : decode cX4_goOn 13 = .ok (.ifCond .eq 11, 3) := by decide +kernel
theorem dX4_goOn_16 : decode cX4_goOn 16 = .ok (.aload_n 0, 1) := by decide +kernel
theorem dX4_goOn_17 : decode cX4_goOn 17 = .ok (.iload_n 1, 1) := by decide +kernel
theorem dX4_goOn_18 : decode cX4_goOn 18 = .ok (.invokevirtual 181, 3) := by decide +kernel
theorem dX4_goOn_21 : decode cX4_goOn 21 = .ok (.goto 36, 3) := by decide +kernel
theorem dX4_goOn_24 : decode cX4_goOn 24 = .ok (.aload_n 0, 1) := by decide +kernel
theorem dX4_goOn_25 : decode cX4_goOn 25 = .ok (.getfield 25, 3) := by decide +kernel
theorem dX4_goOn_28 : decode cX4_goOn 28 = .ok (.iload_n 1, 1) := by decide +kernel
theorem dX4_goOn_29 : decode cX4_goOn 29 = .ok (.iaload, 1) := by decide +kernel
theorem dX4_goOn_30 : decode cX4_goOn 30 = .ok (.aload_n 0, 1) := by decide +kernel
theorem dX4_goOn_31 : decode cX4_goOn 31 = .ok (.getfield 13, 3) := by decide +kernel
theorem dX4_goOn_34 : decode cX4_goOn 34 = .ok (.aload_n 0, 1) := by decide +kernel
theorem dX4_goOn_35 : decode cX4_goOn 35 = .ok (.getfield 22, 3) := by decide +kernel
theorem dX4_goOn_38 : decode cX4_goOn 38 = .ok (.iload_n 1, 1) := by decide +kernel
theorem dX4_goOn_39 : decode cX4_goOn 39 = .ok (.iaload, 1) := by decide +kernel
theorem dX4_goOn_40 : decode cX4_goOn 40 = .ok (.iaload, 1) := by decide +kernel
theorem dX4_goOn_41 : decode cX4_goOn 41 = .ok (.if_icmp .ne 11, 3) := by decide +kernel
theorem dX4_goOn_44 : decode cX4_goOn 44 = .ok (.aload_n 0, 1) := by decide +kernel
theorem dX4_goOn_45 : decode cX4_goOn 45 = .ok (.iload_n 1, 1) := by decide +kernel
theorem dX4_goOn_46 : decode cX4_goOn 46 = .ok (.invokevirtual 184, 3) := by decide +kernel
theorem dX4_goOn_49 : decode cX4_goOn 49 = .ok (.goto 8, 3) := by decide +kernel
theorem dX4_goOn_52 : decode cX4_goOn 52 = .ok (.aload_n 0, 1) := by decide +kernel
theorem dX4_goOn_53 : decode cX4_goOn 53 = .ok (.iload_n 1, 1) := by decide +kernel
theorem dX4_goOn_54 : decode cX4_goOn 54 = .ok (.invokevirtual 187, 3) := by decide +kernel
theorem dX4_goOn_57 : decode cX4_goOn 57 = .ok (.return_, 1) := by decide +kernel
theorem dX4_clean_0 : decode cX4_clean 0 = .ok (.aload_n 0, 1) := by decide +kernel
theorem dX4_clean_1 : decode cX4_clean 1 = .ok (.iconst 0, 1) := by decide +kernel
theorem dX4_clean_2 : decode cX4_clean 2 = .ok (.putfield 121, 3) := by decide +kernel
theorem dX4_clean_5 : decode cX4_clean 5 = .ok (.aload_n 0, 1) := by decide +kernel
theorem dX4_clean_6 : decode cX4_clean 6 = .ok (.iconst 0, 1) := by decide +kernel
theorem dX4_clean_7 : decode cX4_clean 7 = .ok (.putfield 144, 3) := by decide +kernel
theorem dX4_clean_10 : decode cX4_clean 10 = .ok (.aload_n 0, 1) := by decide +kernel
theorem dX4_clean_11 : decode cX4_clean 11 = .ok (.iconst (-1), 1) := by decide +kernel
theorem dX4_clean_12 : decode cX4_clean 12 = .ok (.putfield 160, 3) := by decide +kernel
theorem dX4_clean_15 : decode cX4_clean 15 = .ok (.return_, 1) := by decide +kernel
theorem dX4_destroy_0 : decode cX4_destroy 0 = .ok (.aload_n 0, 1) := by decide +kernel
theorem dX4_destroy_1 : decode cX4_destroy 1 = .ok (.getfield 40, 3) := by decide +kernel
theorem dX4_destroy_4 : decode cX4_destroy 4 = .ok (.iload_n 1, 1) := by decide +kernel
theorem dX4_destroy_5 : decode cX4_destroy 5 = .ok (.iconst 0, 1) := by decide +kernel
theorem dX4_destroy_6 : decode cX4_destroy 6 = .ok (.bastore, 1) := by decide +kernel
theorem dX4_destroy_7 : decode cX4_destroy 7 = .ok (.aload_n 0, 1) := by decide +kernel
theorem dX4_destroy_8 : decode cX4_destroy 8 = .ok (.iconst 2, 1) := by decide +kernel
theorem dX4_destroy_9 : decode cX4_destroy 9 = .ok (.iload_n 1, 1) := by decide +kernel
theorem dX4_destroy_10 : decode cX4_destroy 10 = .ok (.imul, 1) := by decide +kernel
theorem dX4_destroy_11 : decode cX4_destroy 11 = .ok (.iconst 1, 1) := by decide +kernel
theorem dX4_destroy_12 : decode cX4_destroy 12 = .ok (.iadd, 1) := by decide +kernel
theorem dX4_destroy_13 : decode cX4_destroy 13 = .ok (.invokevirtual 178, 3) := by decide +kernel
theorem dX4_destroy_16 : decode cX4_destroy 16 = .ok (.return_, 1) := by decide +kernel
theorem dX4_make_0 : decode cX4_make 0 = .ok (.aload_n 0, 1) := by decide +kernel
theorem dX4_make_1 : decode cX4_make 1 = .ok (.iload_n 1, 1) := by decide +kernel
theorem dX4_make_2 : decode cX4_make 2 = .ok (.invokevirtual 172, 3) := by decide +kernel
theorem dX4_make_5 : decode cX4_make 5 = .ok (.aload_n 0, 1) := by decide +kernel
theorem dX4_make_6 : decode cX4_make 6 = .ok (.getfield 121, 3) := by decide +kernel
theorem dX4_make_9 : decode cX4_make 9 = .ok (.ifCond .le 17, 3) := by decide +kernel
theorem dX4_make_12 : decode cX4_make 12 = .ok (.aload_n 0, 1) := by decide +kernel
theorem dX4_make_13 : decode cX4_make 13 = .ok (.getfield 144, 3) := by decide +kernel
theorem dX4_make_16 : decode cX4_make 16 = .ok (.ifCond .ne 10, 3) := by decide +kernel
theorem dX4_make_19 : decode cX4_make 19 = .ok (.aload_n 0, 1) := by decide +kernel
theorem dX4_make_20 : decode cX4_make 20 = .ok (.invokevirtual 190, 3) := by decide +kernel
theorem dX4_make_23 : decode cX4_make 23 = .ok (.goto (-18), 3) := by decide +kernel
theorem dX4_make_26 : decode cX4_make 26 = .ok (.return_, 1) := by decide +kernel
theorem dX4_settle_0 : decode cX4_settle 0 = .ok (.aload_n 0, 1) := by decide +kernel
theorem dX4_settle_1 : decode cX4_settle 1 = .ok (.getfield 144, 3) := by decide +kernel
theorem dX4_settle_4 : decode cX4_settle 4 = .ok (.ifCond .ne 5, 3) := by decide +kernel
theorem dX4_settle_7 : decode cX4_settle 7 = .ok (.iconst 0, 1) := by decide +kernel
theorem dX4_settle_8 : decode cX4_settle 8 = .ok (.ireturn, 1) := by decide +kernel
theorem dX4_settle_9 : decode cX4_settle 9 = .ok (.aload_n 0, 1) := by decide +kernel
theorem dX4_settle_10 : decode cX4_settle 10 = .ok (.aload_n 0, 1) := by decide +kernel
theorem dX4_settle_11 : decode cX4_settle 11 = .ok (.getfield 144, 3) := by decide +kernel
theorem dX4_settle_14 : decode cX4_settle 14 = .ok (.putfield 193, 3) := by decide +kernel
theorem dX4_settle_17 : decode cX4_settle 17 = .ok (.aload_n 0, 1) := by decide +kernel
theorem dX4_settle_18 : decode cX4_settle 18 = .ok (.aload_n 0, 1) := by decide +kernel
theorem dX4_settle_19 : decode cX4_settle 19 = .ok (.getfield 147, 3) := by decide +kernel
theorem dX4_settle_22 : decode cX4_settle 22 = .ok (.putfield 68, 3) := by decide +kernel
theorem dX4_settle_25 : decode cX4_settle 25 = .ok (.aload_n 0, 1) := by decide +kernel
theorem dX4_settle_26 : decode cX4_settle 26 = .ok (.aload_n 0, 1) := by decide +kernel
theorem dX4_settle_27 : decode cX4_settle 27 = .ok (.getfield 121, 3) := by decide +kernel
theorem dX4_settle_30 : decode cX4_settle 30 = .ok (.putfield 196, 3) := by decide +kernel
theorem dX4_settle_33 : decode cX4_settle 33 = .ok (.iconst 0, 1) := by decide +kernel
theorem dX4_settle_34 : decode cX4_settle 34 = .ok (.istore_n 2, 1) := by decide +kernel
theorem dX4_settle_35 : decode cX4_settle 35 = .ok (.iload_n 2, 1) := by decide +kernel
theorem dX4_settle_36 : decode cX4_settle 36 = .ok (.aload_n 0, 1) := by decide +kernel
theorem dX4_settle_37 : decode cX4_settle 37 = .ok (.getfield 121, 3) := by decide +kernel
theorem dX4_settle_40 : decode cX4_settle 40 = .ok (.if_icmp .ge 21, 3) := by decide +kernel
theorem dX4_settle_43 : decode cX4_settle 43 = .ok (.aload_n 0, 1) := by decide +kernel
theorem dX4_settle_44 : decode cX4_settle 44 = .ok (.getfield 53, 3) := by decide +kernel
theorem dX4_settle_47 : decode cX4_settle 47 = .ok (.iload_n 2, 1) := by decide +kernel
theorem dX4_settle_48 : decode cX4_settle 48 = .ok (.aload_n 0, 1) := by decide +kernel
theorem dX4_settle_49 : decode cX4_settle 49 = .ok (.getfield 22, 3) := by decide +kernel
theorem dX4_settle_52 : decode cX4_settle 52 = .ok (.iload_n 2, 1) := by decide +kernel
theorem dX4_settle_53 : decode cX4_settle 53 = .ok (.iaload, 1) := by decide +kernel
theorem dX4_settle_54 : decode cX4_settle 54 = .ok (.iastore, 1) := by decide +kernel
theorem dX4_settle_55 : decode cX4_settle 55 = .ok (.iinc 2 1, 3) := by decide +kernel
theorem dX4_settle_58 : decode cX4_settle 58 = .ok (.goto (-23), 3) := by decide +kernel
theorem dX4_settle_61 : decode cX4_settle 61 = .ok (.aload_n 0, 1) := by decide +kernel
theorem dX4_settle_62 : decode cX4_settle 62 = .ok (.getfield 154, 3) := by decide +kernel
theorem dX4_settle_65 : decode cX4_settle 65 = .ok (.iconst 1, 1) := by decide +kernel
theorem dX4_settle_66 : decode cX4_settle 66 = .ok (.isub, 1) := by decide +kernel
theorem dX4_settle_67 : decode cX4_settle 67 = .ok (.istore_n 2, 1) := by decide +kernel
theorem dX4_settle_68 : decode cX4_settle 68 = .ok (.iload_n 2, 1) := by decide +kernel
theorem dX4_settle_69 : decode cX4_settle 69 = .ok (.iload_n 1, 1) := by decide +kernel
theorem dX4_settle_70 : decode cX4_settle 70 = .ok (.if_icmp .lt 33, 3) := by decide +kernel
theorem dX4_settle_73 : decode cX4_settle 73 = .ok (.aload_n 0, 1) := by decide +kernel
theorem dX4_settle_74 : decode cX4_settle 74 = .ok (.getfield 40, 3) := by decide +kernel
theorem dX4_settle_77 : decode cX4_settle 77 = .ok (.iload_n 2, 1) := by decide +kernel
theorem dX4_settle_78 : decode cX4_settle 78 = .ok (.baload, 1) := by decide +kernel
theorem dX4_settle_79 : decode cX4_settle 79 = .ok (.ifCond .eq 18, 3) := by decide +kernel
theorem dX4_settle_82 : decode cX4_settle 82 = .ok (.aload_n 0, 1) := by decide +kernel
theorem dX4_settle_83 : decode cX4_settle 83 = .ok (.getfield 34, 3) := by decide +kernel
theorem dX4_settle_86 : decode cX4_settle 86 = .ok (.iload_n 2, 1) := by decide +kernel
theorem dX4_settle_87 : decode cX4_settle 87 = .ok (.iaload, 1) := by decide +kernel
theorem dX4_settle_88 : decode cX4_settle 88 = .ok (.iconst 1, 1) := by decide +kernel
theorem dX4_settle_89 : decode cX4_settle 89 = .ok (.if_icmp .ne 8, 3) := by decide +kernel
theorem dX4_settle_92 : decode cX4_settle 92 = .ok (.aload_n 0, 1) := by decide +kernel
theorem dX4_settle_93 : decode cX4_settle 93 = .ok (.iload_n 2, 1) := by decide +kernel
theorem dX4_settle_94 : decode cX4_settle 94 = .ok (.invokevirtual 199, 3) := by decide +kernel
theorem dX4_settle_97 : decode cX4_settle 97 = .ok (.iinc 2 (-1), 3) := by decide +kernel
theorem dX4_settle_100 : decode cX4_settle 100 = .ok (.goto (-32), 3) := by decide +kernel
theorem dX4_settle_103 : decode cX4_settle 103 = .ok (.aload_n 0, 1) := by decide +kernel
theorem dX4_settle_104 : decode cX4_settle 104 = .ok (.iconst 0, 1) := by decide +kernel
theorem dX4_settle_105 : decode cX4_settle 105 = .ok (.putfield 121, 3) := by decide +kernel
theorem dX4_settle_108 : decode cX4_settle 108 = .ok (.iconst 1, 1) := by decide +kernel
theorem dX4_settle_109 : decode cX4_settle 109 = .ok (.ireturn, 1) := by decide +kernel
theorem dX4_request_0 : decode cX4_request 0 = .ok (.aload_n 0, 1) := by decide +kernel
theorem dX4_request_1 : decode cX4_request 1 = .ok (.getfield 154, 3) := by decide +kernel
theorem dX4_request_4 : decode cX4_request 4 = .ok (.istore_n 3, 1) := by decide +kernel
theorem dX4_request_5 : decode cX4_request 5 = .ok (.aload_n 0, 1) := by decide +kernel
theorem dX4_request_6 : decode cX4_request 6 = .ok (.invokevirtual 202, 3) := by decide +kernel
theorem dX4_request_9 : decode cX4_request 9 = .ok (.aload_n 0, 1) := by decide +kernel
theorem dX4_request_10 : decode cX4_request 10 = .ok (.iload_n 1, 1) := by decide +kernel
theorem dX4_request_11 : decode cX4_request 11 = .ok (.iload_n 2, 1) := by decide +kernel
theorem dX4_request_12 : decode cX4_request 12 = .ok (.invokevirtual 118, 3) := by decide +kernel
theorem dX4_request_15 : decode cX4_request 15 = .ok (.istore 4, 2) := by decide +kernel
theorem dX4_request_17 : decode cX4_request 17 = .ok (.iload 4, 2) := by decide +kernel
theorem dX4_request_19 : decode cX4_request 19 = .ok (.ifCond .ge 14, 3) := by decide +kernel
theorem dX4_request_22 : decode cX4_request 22 = .ok (.aload_n 0, 1) := by decide +kernel
theorem dX4_request_23 : decode cX4_request 23 = .ok (.iload 4, 2) := by decide +kernel
theorem dX4_request_25 : decode cX4_request 25 = .ok (.ineg, 1) := by decide +kernel
theorem dX4_request_26 : decode cX4_request 26 = .ok (.iload_n 1, 1) := by decide +kernel
theorem dX4_request_27 : decode cX4_request 27 = .ok (.invokevirtual 150, 3) := by decide +kernel
theorem dX4_request_30 : decode cX4_request 30 = .ok (.goto 9, 3) := by decide +kernel
theorem dX4_request_33 : decode cX4_request 33 = .ok (.aload_n 0, 1) := by decide +kernel
theorem dX4_request_34 : decode cX4_request 34 = .ok (.iload 4, 2) := by decide +kernel
theorem dX4_request_36 : decode cX4_request 36 = .ok (.invokevirtual 205, 3) := by decide +kernel
theorem dX4_request_39 : decode cX4_request 39 = .ok (.aload_n 0, 1) := by decide +kernel
theorem dX4_request_40 : decode cX4_request 40 = .ok (.iload_n 3, 1) := by decide +kernel
theorem dX4_request_41 : decode cX4_request 41 = .ok (.invokevirtual 208, 3) := by decide +kernel
theorem dX4_request_44 : decode cX4_request 44 = .ok (.ifCond .eq 7, 3) := by decide +kernel
theorem dX4_request_47 : decode cX4_request 47 = .ok (.iconst (-1), 1) := by decide +kernel
theorem dX4_request_48 : decode cX4_request 48 = .ok (.goto 7, 3) := by decide +kernel
theorem dX4_request_51 : decode cX4_request 51 = .ok (.aload_n 0, 1) := by decide +kernel
theorem dX4_request_52 : decode cX4_request 52 = .ok (.getfield 160, 3) := by decide +kernel
theorem dX4_request_55 : decode cX4_request 55 = .ok (.ireturn, 1) := by decide +kernel
theorem dX4_resolve_0 : decode cX4_resolve 0 = .ok (.aload_n 0, 1) := by decide +kernel
theorem dX4_resolve_1 : decode cX4_resolve 1 = .ok (.iload_n 1, 1) := by decide +kernel
theorem dX4_resolve_2 : decode cX4_resolve 2 = .ok (.iload_n 2, 1) := by decide +kernel
theorem dX4_resolve_3 : decode cX4_resolve 3 = .ok (.invokestatic 95, 3) := by decide +kernel
theorem dX4_resolve_6 : decode cX4_resolve 6 = .ok (.ifCond .eq 7, 3) := by decide +kernel
theorem dX4_resolve_9 : decode cX4_resolve 9 = .ok (.iconst 0, 1) := by decide +kernel
theorem dX4_resolve_10 : decode cX4_resolve 10 = .ok (.goto 4, 3) := by decide +kernel
theorem dX4_resolve_13 : decode cX4_resolve 13 = .ok (.iconst 1, 1) := by decide +kernel
theorem dX4_resolve_14 : decode cX4_resolve 14 = .ok (.putfield 72, 3) := by decide +kernel
theorem dX4_resolve_17 : decode cX4_resolve 17 = .ok (.aload_n 0, 1) := by decide +kernel
theorem dX4_resolve_18 : decode cX4_resolve 18 = .ok (.getfield 72, 3) := by decide +kernel
theorem dX4_resolve_21 : decode cX4_resolve 21 = .ok (.ifCond .eq 5, 3) := by decide +kernel
theorem dX4_resolve_24 : decode cX4_resolve 24 = .ok (.iconst 0, 1) := by decide +kernel
theorem dX4_resolve_25 : decode cX4_resolve 25 = .ok (.ireturn, 1) := by decide +kernel
theorem dX4_resolve_26 : decode cX4_resolve 26 = .ok (.aload_n 0, 1) := by decide +kernel
theorem dX4_resolve_27 : decode cX4_resolve 27 = .ok (.iload_n 1, 1) := by decide +kernel
theorem dX4_resolve_28 : decode cX4_resolve 28 = .ok (.iload_n 2, 1) := by decide +kernel
theorem dX4_resolve_29 : decode cX4_resolve 29 = .ok (.invokevirtual 211, 3) := by decide +kernel
theorem dX4_resolve_32 : decode cX4_resolve 32 = .ok (.istore_n 3, 1) := by decide +kernel
theorem dX4_resolve_33 : decode cX4_resolve 33 = .ok (.aload_n 0, 1) := by decide +kernel
theorem dX4_resolve_34 : decode cX4_resolve 34 = .ok (.iload_n 3, 1) := by decide +kernel
theorem dX4_resolve_35 : decode cX4_resolve 35 = .ok (.ifCond .ge 7, 3) := by decide +kernel
theorem dX4_resolve_38 : decode cX4_resolve 38 = .ok (.iconst 2, 1) := by decide +kernel
theorem dX4_resolve_39 : decode cX4_resolve 39 = .ok (.goto 4, 3) := by decide +kernel
theorem dX4_resolve_42 : decode cX4_resolve 42 = .ok (.iconst 0, 1) := by decide +kernel
theorem dX4_resolve_43 : decode cX4_resolve 43 = .ok (.putfield 72, 3) := by decide +kernel
theorem dX4_resolve_46 : decode cX4_resolve 46 = .ok (.aload_n 0, 1) := by decide +kernel
theorem dX4_resolve_47 : decode cX4_resolve 47 = .ok (.getfield 72, 3) := by decide +kernel
theorem dX4_resolve_50 : decode cX4_resolve 50 = .ok (.ifCond .eq 7, 3) := by decide +kernel
theorem dX4_resolve_53 : decode cX4_resolve 53 = .ok (.iconst 0, 1) := by decide +kernel
theorem dX4_resolve_54 : decode cX4_resolve 54 = .ok (.goto 4, 3) := by decide +kernel
theorem dX4_resolve_57 : decode cX4_resolve 57 = .ok (.iload_n 3, 1) := by decide +kernel
theorem dX4_resolve_58 : decode cX4_resolve 58 = .ok (.ireturn, 1) := by decide +kernel
theorem dX4_isInstance_0 : decode cX4_isInstance 0 = .ok (.iload_n 1, 1) := by decide +kernel
theorem dX4_isInstance_1 : decode cX4_isInstance 1 = .ok (.iconst 0, 1) := by decide +kernel
theorem dX4_isInstance_2 : decode cX4_isInstance 2 = .ok (.aload_n 0, 1) := by decide +kernel
theorem dX4_isInstance_3 : decode cX4_isInstance 3 = .ok (.getfield 154, 3) := by decide +kernel
theorem dX4_isInstance_6 : decode cX4_isInstance 6 = .ok (.iconst 1, 1) := by decide +kernel
theorem dX4_isInstance_7 : decode cX4_isInstance 7 = .ok (.isub, 1) := by decide +kernel
theorem dX4_isInstance_8 : decode cX4_isInstance 8 = .ok (.invokestatic 78, 3) := by decide +kernel
theorem dX4_isInstance_11 : decode cX4_isInstance 11 = .ok (.ireturn, 1) := by decide +kernel
theorem dX4_isLater_0 : decode cX4_isLater 0 = .ok (.iload_n 2, 1) := by decide +kernel
theorem dX4_isLater_1 : decode cX4_isLater 1 = .ok (.iconst 0, 1) := by decide +kernel
theorem dX4_isLater_2 : decode cX4_isLater 2 = .ok (.aload_n 0, 1) := by decide +kernel
theorem dX4_isLater_3 : decode cX4_isLater 3 = .ok (.getfield 13, 3) := by decide +kernel
theorem dX4_isLater_6 : decode cX4_isLater 6 = .ok (.iload_n 1, 1) := by decide +kernel
theorem dX4_isLater_7 : decode cX4_isLater 7 = .ok (.iaload, 1) := by decide +kernel
theorem dX4_isLater_8 : decode cX4_isLater 8 = .ok (.iconst 1, 1) := by decide +kernel
theorem dX4_isLater_9 : decode cX4_isLater 9 = .ok (.isub, 1) := by decide +kernel
theorem dX4_isLater_10 : decode cX4_isLater 10 = .ok (.invokestatic 78, 3) := by decide +kernel
theorem dX4_isLater_13 : decode cX4_isLater 13 = .ok (.ifCond .eq 18, 3) := by decide +kernel
theorem dX4_isLater_16 : decode cX4_isLater 16 = .ok (.aload_n 0, 1) := by decide +kernel
theorem dX4_isLater_17 : decode cX4_isLater 17 = .ok (.iload_n 1, 1) := by decide +kernel
theorem dX4_isLater_18 : decode cX4_isLater 18 = .ok (.iload_n 2, 1) := by decide +kernel
theorem dX4_isLater_19 : decode cX4_isLater 19 = .ok (.iconst 2, 1) := by decide +kernel
theorem dX4_isLater_20 : decode cX4_isLater 20 = .ok (.invokevirtual 98, 3) := by decide +kernel
theorem dX4_isLater_23 : decode cX4_isLater 23 = .ok (.iconst 3, 1) := by decide +kernel
theorem dX4_isLater_24 : decode cX4_isLater 24 = .ok (.if_icmp .ne 7, 3) := by decide +kernel
theorem dX4_isLater_27 : decode cX4_isLater 27 = .ok (.iconst 1, 1) := by decide +kernel
theorem dX4_isLater_28 : decode cX4_isLater 28 = .ok (.goto 4, 3) := by decide +kernel
theorem dX4_isLater_31 : decode cX4_isLater 31 = .ok (.iconst 0, 1) := by decide +kernel
theorem dX4_isLater_32 : decode cX4_isLater 32 = .ok (.ireturn, 1) := by decide +kernel
theorem dX4_provide_0 : decode cX4_provide 0 = .ok (.aload_n 0, 1) := by decide +kernel
theorem dX4_provide_1 : decode cX4_provide 1 = .ok (.aload_n 0, 1) := by decide +kernel
theorem dX4_provide_2 : decode cX4_provide 2 = .ok (.iload_n 1, 1) := by decide +kernel
theorem dX4_provide_3 : decode cX4_provide 3 = .ok (.invokevirtual 214, 3) := by decide +kernel
theorem dX4_provide_6 : decode cX4_provide 6 = .ok (.ifCond .ne 7, 3) := by decide +kernel
theorem dX4_provide_9 : decode cX4_provide 9 = .ok (.iconst 1, 1) := by decide +kernel
theorem dX4_provide_10 : decode cX4_provide 10 = .ok (.goto 35, 3) := by decide +kernel
theorem dX4_provide_13 : decode cX4_provide 13 = .ok (.aload_n 0, 1) := by decide +kernel
theorem dX4_provide_14 : decode cX4_provide 14 = .ok (.aload_n 0, 1) := by decide +kernel
theorem dX4_provide_15 : decode cX4_provide 15 = .ok (.getfield 31, 3) := by decide +kernel
theorem dX4_provide_18 : decode cX4_provide 18 = .ok (.iload_n 1, 1) := by decide +kernel
theorem dX4_provide_19 : decode cX4_provide 19 = .ok (.iaload, 1) := by decide +kernel
theorem dX4_provide_20 : decode cX4_provide 20 = .ok (.iload_n 2, 1) := by decide +kernel
theorem dX4_provide_21 : decode cX4_provide 21 = .ok (.invokevirtual 217, 3) := by decide +kernel
theorem dX4_provide_24 : decode cX4_provide 24 = .ok (.ifCond .ne 7, 3) := by decide +kernel
theorem dX4_provide_27 : decode cX4_provide 27 = .ok (.iconst 2, 1) := by decide +kernel
theorem dX4_provide_28 : decode cX4_provide 28 = .ok (.goto 17, 3) := by decide +kernel
theorem dX4_provide_31 : decode cX4_provide 31 = .ok (.aload_n 0, 1) := by decide +kernel
theorem dX4_provide_32 : decode cX4_provide 32 = .ok (.getfield 40, 3) := by decide +kernel
theorem dX4_provide_35 : decode cX4_provide 35 = .ok (.iload_n 1, 1) := by decide +kernel
theorem dX4_provide_36 : decode cX4_provide 36 = .ok (.baload, 1) := by decide +kernel
theorem dX4_provide_37 : decode cX4_provide 37 = .ok (.ifCond .ne 7, 3) := by decide +kernel
theorem dX4_provide_40 : decode cX4_provide 40 = .ok (.iconst 3, 1) := by decide +kernel
theorem dX4_provide_41 : decode cX4_provide 41 = .ok (.goto 4, 3) := by decide +kernel
theorem dX4_provide_44 : decode cX4_provide 44 = .ok (.iconst 0, 1) := by decide +kernel
theorem dX4_provide_45 : decode cX4_provide 45 = .ok (.putfield 72, 3) := by decide +kernel
theorem dX4_provide_48 : decode cX4_provide 48 = .ok (.aload_n 0, 1) := by decide +kernel
theorem dX4_provide_49 : decode cX4_provide 49 = .ok (.getfield 72, 3) := by decide +kernel
theorem dX4_provide_52 : decode cX4_provide 52 = .ok (.ifCond .eq 5, 3) := by decide +kernel
theorem dX4_provide_55 : decode cX4_provide 55 = .ok (.iconst 0, 1) := by decide +kernel
theorem dX4_provide_56 : decode cX4_provide 56 = .ok (.ireturn, 1) := by decide +kernel
theorem dX4_provide_57 : decode cX4_provide 57 = .ok (.aload_n 0, 1) := by decide +kernel
theorem dX4_provide_58 : decode cX4_provide 58 = .ok (.getfield 31, 3) := by decide +kernel
theorem dX4_provide_61 : decode cX4_provide 61 = .ok (.iload_n 1, 1) := by decide +kernel
theorem dX4_provide_62 : decode cX4_provide 62 = .ok (.iaload, 1) := by decide +kernel
theorem dX4_provide_63 : decode cX4_provide 63 = .ok (.istore_n 3, 1) := by decide +kernel
theorem dX4_provide_64 : decode cX4_provide 64 = .ok (.aload_n 0, 1) := by decide +kernel
theorem dX4_provide_65 : decode cX4_provide 65 = .ok (.aload_n 0, 1) := by decide +kernel
theorem dX4_provide_66 : decode cX4_provide 66 = .ok (.iload_n 3, 1) := by decide +kernel
theorem dX4_provide_67 : decode cX4_provide 67 = .ok (.iload_n 2, 1) := by decide +kernel
theorem dX4_provide_68 : decode cX4_provide 68 = .ok (.iconst 0, 1) := by decide +kernel
theorem dX4_provide_69 : decode cX4_provide 69 = .ok (.invokevirtual 98, 3) := by decide +kernel
theorem dX4_provide_72 : decode cX4_provide 72 = .ok (.aload_n 0, 1) := by decide +kernel
theorem dX4_provide_73 : decode cX4_provide 73 = .ok (.iload_n 3, 1) := by decide +kernel
theorem dX4_provide_74 : decode cX4_provide 74 = .ok (.iload_n 2, 1) := by decide +kernel
theorem dX4_provide_75 : decode cX4_provide 75 = .ok (.iconst 1, 1) := by decide +kernel
theorem dX4_provide_76 : decode cX4_provide 76 = .ok (.invokevirtual 98, 3) := by decide +kernel
theorem dX4_provide_79 : decode cX4_provide 79 = .ok (.invokevirtual 211, 3) := by decide +kernel
theorem dX4_provide_82 : decode cX4_provide 82 = .ok (.istore 4, 2) := by decide +kernel
theorem dX4_provide_84 : decode cX4_provide 84 = .ok (.aload_n 0, 1) := by decide +kernel
theorem dX4_provide_85 : decode cX4_provide 85 = .ok (.iload 4, 2) := by decide +kernel
theorem dX4_provide_87 : decode cX4_provide 87 = .ok (.ifCond .ge 7, 3) := by decide +kernel
theorem dX4_provide_90 : decode cX4_provide 90 = .ok (.iconst 3, 1) := by decide +kernel
theorem dX4_provide_91 : decode cX4_provide 91 = .ok (.goto 4, 3) := by decide +kernel
theorem dX4_provide_94 : decode cX4_provide 94 = .ok (.iconst 0, 1) := by decide +kernel
theorem dX4_provide_95 : decode cX4_provide 95 = .ok (.putfield 72, 3) := by decide +kernel
theorem dX4_provide_98 : decode cX4_provide 98 = .ok (.aload_n 0, 1) := by decide +kernel
theorem dX4_provide_99 : decode cX4_provide 99 = .ok (.getfield 72, 3) := by decide +kernel
theorem dX4_provide_102 : decode cX4_provide 102 = .ok (.ifCond .eq 7, 3) := by decide +kernel
theorem dX4_provide_105 : decode cX4_provide 105 = .ok (.iconst 0, 1) := by decide +kernel
theorem dX4_provide_106 : decode cX4_provide 106 = .ok (.goto 5, 3) := by decide +kernel
theorem dX4_provide_109 : decode cX4_provide 109 = .ok (.iload 4, 2) := by decide +kernel
theorem dX4_provide_111 : decode cX4_provide 111 = .ok (.ireturn, 1) := by decide +kernel
theorem dX4_start_0 : decode cX4_start 0 = .ok (.aload_n 0, 1) := by decide +kernel
theorem dX4_start_1 : decode cX4_start 1 = .ok (.getfield 154, 3) := by decide +kernel
theorem dX4_start_4 : decode cX4_start 4 = .ok (.istore_n 1, 1) := by decide +kernel
theorem dX4_start_5 : decode cX4_start 5 = .ok (.aload_n 0, 1) := by decide +kernel
theorem dX4_start_6 : decode cX4_start 6 = .ok (.invokevirtual 202, 3) := by decide +kernel
theorem dX4_start_9 : decode cX4_start 9 = .ok (.iconst 0, 1) := by decide +kernel
theorem dX4_start_10 : decode cX4_start 10 = .ok (.istore_n 2, 1) := by decide +kernel
theorem dX4_start_11 : decode cX4_start 11 = .ok (.iload_n 2, 1) := by decide +kernel
theorem dX4_start_12 : decode cX4_start 12 = .ok (.aload_n 0, 1) := by decide +kernel
theorem dX4_start_13 : decode cX4_start 13 = .ok (.getfield 75, 3) := by decide +kernel
theorem dX4_start_16 : decode cX4_start 16 = .ok (.if_icmp .ge 47, 3) := by decide +kernel
theorem dX4_start_19 : decode cX4_start 19 = .ok (.aload_n 0, 1) := by decide +kernel
theorem dX4_start_20 : decode cX4_start 20 = .ok (.getfield 144, 3) := by decide +kernel
theorem dX4_start_23 : decode cX4_start 23 = .ok (.ifCond .ne 40, 3) := by decide +kernel
theorem dX4_start_26 : decode cX4_start 26 = .ok (.aload_n 0, 1) := by decide +kernel
theorem dX4_start_27 : decode cX4_start 27 = .ok (.iload_n 2, 1) := by decide +kernel
theorem dX4_start_28 : decode cX4_start 28 = .ok (.invokevirtual 105, 3) := by decide +kernel
theorem dX4_start_31 : decode cX4_start 31 = .ok (.ifCond .eq 26, 3) := by decide +kernel
theorem dX4_start_34 : decode cX4_start 34 = .ok (.aload_n 0, 1) := by decide +kernel
theorem dX4_start_35 : decode cX4_start 35 = .ok (.iload_n 2, 1) := by decide +kernel
theorem dX4_start_36 : decode cX4_start 36 = .ok (.iconst 1, 1) := by decide +kernel
theorem dX4_start_37 : decode cX4_start 37 = .ok (.invokevirtual 91, 3) := by decide +kernel
theorem dX4_start_40 : decode cX4_start 40 = .ok (.ifCond .ne 17, 3) := by decide +kernel
theorem dX4_start_43 : decode cX4_start 43 = .ok (.aload_n 0, 1) := by decide +kernel
theorem dX4_start_44 : decode cX4_start 44 = .ok (.iload_n 2, 1) := by decide +kernel
theorem dX4_start_45 : decode cX4_start 45 = .ok (.iconst 4, 1) := by decide +kernel
theorem dX4_start_46 : decode cX4_start 46 = .ok (.invokevirtual 91, 3) := by decide +kernel
theorem dX4_start_49 : decode cX4_start 49 = .ok (.ifCond .ne 8, 3) := by decide +kernel
theorem dX4_start_52 : decode cX4_start 52 = .ok (.aload_n 0, 1) := by decide +kernel
theorem dX4_start_53 : decode cX4_start 53 = .ok (.iload_n 2, 1) := by decide +kernel
theorem dX4_start_54 : decode cX4_start 54 = .ok (.invokevirtual 205, 3) := by decide +kernel
theorem dX4_start_57 : decode cX4_start 57 = .ok (.iinc 2 1, 3) := by decide +kernel
theorem dX4_start_60 : decode cX4_start 60 = .ok (.goto (-49), 3) := by decide +kernel
theorem dX4_start_63 : decode cX4_start 63 = .ok (.aload_n 0, 1) := by decide +kernel
theorem dX4_start_64 : decode cX4_start 64 = .ok (.aload_n 0, 1) := by decide +kernel
theorem dX4_start_65 : decode cX4_start 65 = .ok (.iload_n 1, 1) := by decide +kernel
theorem dX4_start_66 : decode cX4_start 66 = .ok (.invokevirtual 208, 3) := by decide +kernel
theorem dX4_start_69 : decode cX4_start 69 = .ok (.ifCond .eq 7, 3) := by decide +kernel
theorem dX4_start_72 : decode cX4_start 72 = .ok (.iconst 1, 1) := by decide +kernel
theorem dX4_start_73 : decode cX4_start 73 = .ok (.goto 4, 3) := by decide +kernel
theorem dX4_start_76 : decode cX4_start 76 = .ok (.iconst 0, 1) := by decide +kernel
theorem dX4_start_77 : decode cX4_start 77 = .ok (.putfield 72, 3) := by decide +kernel
theorem dX4_start_80 : decode cX4_start 80 = .ok (.aload_n 0, 1) := by decide +kernel
theorem dX4_start_81 : decode cX4_start 81 = .ok (.getfield 72, 3) := by decide +kernel
theorem dX4_start_84 : decode cX4_start 84 = .ok (.ifCond .eq 7, 3) := by decide +kernel
theorem dX4_start_87 : decode cX4_start 87 = .ok (.iconst 0, 1) := by decide +kernel
theorem dX4_start_88 : decode cX4_start 88 = .ok (.goto 9, 3) := by decide +kernel
theorem dX4_start_91 : decode cX4_start 91 = .ok (.aload_n 0, 1) := by decide +kernel
theorem dX4_start_92 : decode cX4_start 92 = .ok (.getfield 154, 3) := by decide +kernel
theorem dX4_start_95 : decode cX4_start 95 = .ok (.iload_n 1, 1) := by decide +kernel
theorem dX4_start_96 : decode cX4_start 96 = .ok (.isub, 1) := by decide +kernel
theorem dX4_start_97 : decode cX4_start 97 = .ok (.ireturn, 1) := by decide +kernel
theorem dX4_begin_0 : decode cX4_begin 0 = .ok (.aload_n 0, 1) := by decide +kernel
theorem dX4_begin_1 : decode cX4_begin 1 = .ok (.aload_n 0, 1) := by decide +kernel
theorem dX4_begin_2 : decode cX4_begin 2 = .ok (.getfield 157, 3) := by decide +kernel
theorem dX4_begin_5 : decode cX4_begin 5 = .ok (.iconst 5, 1) := by decide +kernel
theorem dX4_begin_6 : decode cX4_begin 6 = .ok (.if_icmp .ne 7, 3) := by decide +kernel
theorem dX4_begin_9 : decode cX4_begin 9 = .ok (.iconst 1, 1) := by decide +kernel
theorem dX4_begin_10 : decode cX4_begin 10 = .ok (.goto 4, 3) := by decide +kernel
theorem dX4_begin_13 : decode cX4_begin 13 = .ok (.iconst 0, 1) := by decide +kernel
theorem dX4_begin_14 : decode cX4_begin 14 = .ok (.putfield 72, 3) := by decide +kernel
theorem dX4_begin_17 : decode cX4_begin 17 = .ok (.aload_n 0, 1) := by decide +kernel
theorem dX4_begin_18 : decode cX4_begin 18 = .ok (.getfield 72, 3) := by decide +kernel
theorem dX4_begin_21 : decode cX4_begin 21 = .ok (.ifCond .eq 5, 3) := by decide +kernel
theorem dX4_begin_24 : decode cX4_begin 24 = .ok (.iconst 0, 1) := by decide +kernel
theorem dX4_begin_25 : decode cX4_begin 25 = .ok (.ireturn, 1) := by decide +kernel
theorem dX4_begin_26 : decode cX4_begin 26 = .ok (.aload_n 0, 1) := by decide +kernel
theorem dX4_begin_27 : decode cX4_begin 27 = .ok (.dup, 1) := by decide +kernel
theorem dX4_begin_28 : decode cX4_begin 28 = .ok (.getfield 157, 3) := by decide +kernel
theorem dX4_begin_31 : decode cX4_begin 31 = .ok (.iconst 1, 1) := by decide +kernel
theorem dX4_begin_32 : decode cX4_begin 32 = .ok (.iadd, 1) := by decide +kernel
theorem dX4_begin_33 : decode cX4_begin 33 = .ok (.putfield 157, 3) := by decide +kernel
theorem dX4_begin_36 : decode cX4_begin 36 = .ok (.aload_n 0, 1) := by decide +kernel
theorem dX4_begin_37 : decode cX4_begin 37 = .ok (.getfield 157, 3) := by decide +kernel
theorem dX4_begin_40 : decode cX4_begin 40 = .ok (.ireturn, 1) := by decide +kernel
theorem dX4_endScope_0 : decode cX4_endScope 0 = .ok (.iconst 0, 1) := by decide +kernel
theorem dX4_endScope_1 : decode cX4_endScope 1 = .ok (.istore_n 1, 1) := by decide +kernel
theorem dX4_endScope_2 : decode cX4_endScope 2 = .ok (.aload_n 0, 1) := by decide +kernel
theorem dX4_endScope_3 : decode cX4_endScope 3 = .ok (.getfield 154, 3) := by decide +kernel
theorem dX4_endScope_6 : decode cX4_endScope 6 = .ok (.iconst 1, 1) := by decide +kernel
theorem dX4_endScope_7 : decode cX4_endScope 7 = .ok (.isub, 1) := by decide +kernel
theorem dX4_endScope_8 : decode cX4_endScope 8 = .ok (.istore_n 2, 1) := by decide +kernel
theorem dX4_endScope_9 : decode cX4_endScope 9 = .ok (.iload_n 2, 1) := by decide +kernel
theorem dX4_endScope_10 : decode cX4_endScope 10 = .ok (.ifCond .lt 49, 3) := by decide +kernel
theorem dX4_endScope_13 : decode cX4_endScope 13 = .ok (.aload_n 0, 1) := by decide +kernel
theorem dX4_endScope_14 : decode cX4_endScope 14 = .ok (.getfield 40, 3) := by decide +kernel
theorem dX4_endScope_17 : decode cX4_endScope 17 = .ok (.iload_n 2, 1) := by decide +kernel
theorem dX4_endScope_18 : decode cX4_endScope 18 = .ok (.baload, 1) := by decide +kernel
theorem dX4_endScope_19 : decode cX4_endScope 19 = .ok (.ifCond .eq 34, 3) := by decide +kernel
theorem dX4_endScope_22 : decode cX4_endScope 22 = .ok (.aload_n 0, 1) := by decide +kernel
theorem dX4_endScope_23 : decode cX4_endScope 23 = .ok (.getfield 34, 3) := by decide +kernel
theorem dX4_endScope_26 : decode cX4_endScope 26 = .ok (.iload_n 2, 1) := by decide +kernel
theorem dX4_endScope_27 : decode cX4_endScope 27 = .ok (.iaload, 1) := by decide +kernel
theorem dX4_endScope_28 : decode cX4_endScope 28 = .ok (.iconst 2, 1) := by decide +kernel
theorem dX4_endScope_29 : decode cX4_endScope 29 = .ok (.if_icmp .ne 24, 3) := by decide +kernel
theorem dX4_endScope_32 : decode cX4_endScope 32 = .ok (.aload_n 0, 1) := by decide +kernel
theorem dX4_endScope_33 : decode cX4_endScope 33 = .ok (.getfield 37, 3) := by decide +kernel
theorem dX4_endScope_36 : decode cX4_endScope 36 = .ok (.iload_n 2, 1) := by decide +kernel
theorem dX4_endScope_37 : decode cX4_endScope 37 = .ok (.iaload, 1) := by decide +kernel
theorem dX4_endScope_38 : decode cX4_endScope 38 = .ok (.aload_n 0, 1) := by decide +kernel
theorem dX4_endScope_39 : decode cX4_endScope 39 = .ok (.getfield 157, 3) := by decide +kernel
theorem dX4_endScope_42 : decode cX4_endScope 42 = .ok (.if_icmp .ne 11, 3) := by decide +kernel
theorem dX4_endScope_45 : decode cX4_endScope 45 = .ok (.aload_n 0, 1) := by decide +kernel
theorem dX4_endScope_46 : decode cX4_endScope 46 = .ok (.iload_n 2, 1) := by decide +kernel
theorem dX4_endScope_47 : decode cX4_endScope 47 = .ok (.invokevirtual 199, 3) := by decide +kernel
theorem dX4_endScope_50 : decode cX4_endScope 50 = .ok (.iinc 1 1, 3) := by decide +kernel
theorem dX4_endScope_53 : decode cX4_endScope 53 = .ok (.iinc 2 (-1), 3) := by decide +kernel
theorem dX4_endScope_56 : decode cX4_endScope 56 = .ok (.goto (-47), 3) := by decide +kernel
theorem dX4_endScope_59 : decode cX4_endScope 59 = .ok (.aload_n 0, 1) := by decide +kernel
theorem dX4_endScope_60 : decode cX4_endScope 60 = .ok (.dup, 1) := by decide +kernel
theorem dX4_endScope_61 : decode cX4_endScope 61 = .ok (.getfield 157, 3) := by decide +kernel
theorem dX4_endScope_64 : decode cX4_endScope 64 = .ok (.iconst 1, 1) := by decide +kernel
theorem dX4_endScope_65 : decode cX4_endScope 65 = .ok (.isub, 1) := by decide +kernel
theorem dX4_endScope_66 : decode cX4_endScope 66 = .ok (.putfield 157, 3) := by decide +kernel
theorem dX4_endScope_69 : decode cX4_endScope 69 = .ok (.iload_n 1, 1) := by decide +kernel
theorem dX4_endScope_70 : decode cX4_endScope 70 = .ok (.ireturn, 1) := by decide +kernel
theorem dX4_end_0 : decode cX4_end 0 = .ok (.aload_n 0, 1) := by decide +kernel
theorem dX4_end_1 : decode cX4_end 1 = .ok (.aload_n 0, 1) := by decide +kernel
theorem dX4_end_2 : decode cX4_end 2 = .ok (.getfield 157, 3) := by decide +kernel
theorem dX4_end_5 : decode cX4_end 5 = .ok (.ifCond .ne 7, 3) := by decide +kernel
theorem dX4_end_8 : decode cX4_end 8 = .ok (.iconst 1, 1) := by decide +kernel
theorem dX4_end_9 : decode cX4_end 9 = .ok (.goto 4, 3) := by decide +kernel
theorem dX4_end_12 : decode cX4_end 12 = .ok (.iconst 0, 1) := by decide +kernel
theorem dX4_end_13 : decode cX4_end 13 = .ok (.putfield 72, 3) := by decide +kernel
theorem dX4_end_16 : decode cX4_end 16 = .ok (.aload_n 0, 1) := by decide +kernel
theorem dX4_end_17 : decode cX4_end 17 = .ok (.getfield 72, 3) := by decide +kernel
theorem dX4_end_20 : decode cX4_end 20 = .ok (.ifCond .eq 7, 3) := by decide +kernel
theorem dX4_end_23 : decode cX4_end 23 = .ok (.iconst 0, 1) := by decide +kernel
theorem dX4_end_24 : decode cX4_end 24 = .ok (.goto 7, 3) := by decide +kernel
theorem dX4_end_27 : decode cX4_end 27 = .ok (.aload_n 0, 1) := by decide +kernel
theorem dX4_end_28 : decode cX4_end 28 = .ok (.invokevirtual 220, 3) := by decide +kernel
theorem dX4_end_31 : decode cX4_end 31 = .ok (.ireturn, 1) := by decide +kernel
theorem dX4_close_0 : decode cX4_close 0 = .ok (.aload_n 0, 1) := by decide +kernel
theorem dX4_close_1 : decode cX4_close 1 = .ok (.iconst 0, 1) := by decide +kernel
theorem dX4_close_2 : decode cX4_close 2 = .ok (.putfield 72, 3) := by decide +kernel
theorem dX4_close_5 : decode cX4_close 5 = .ok (.iconst 0, 1) := by decide +kernel
theorem dX4_close_6 : decode cX4_close 6 = .ok (.istore_n 1, 1) := by decide +kernel
theorem dX4_close_7 : decode cX4_close 7 = .ok (.aload_n 0, 1) := by decide +kernel
theorem dX4_close_8 : decode cX4_close 8 = .ok (.getfield 157, 3) := by decide +kernel
theorem dX4_close_11 : decode cX4_close 11 = .ok (.ifCond .le 13, 3) := by decide +kernel
theorem dX4_close_14 : decode cX4_close 14 = .ok (.iload_n 1, 1) := by decide +kernel
theorem dX4_close_15 : decode cX4_close 15 = .ok (.aload_n 0, 1) := by decide +kernel
theorem dX4_close_16 : decode cX4_close 16 = .ok (.invokevirtual 220, 3) := by decide +kernel
theorem dX4_close_19 : decode cX4_close 19 = .ok (.iadd, 1) := by decide +kernel
theorem dX4_close_20 : decode cX4_close 20 = .ok (.istore_n 1, 1) := by decide +kernel
theorem dX4_close_21 : decode cX4_close 21 = .ok (.goto (-14), 3) := by decide +kernel
theorem dX4_close_24 : decode cX4_close 24 = .ok (.aload_n 0, 1) := by decide +kernel
theorem dX4_close_25 : decode cX4_close 25 = .ok (.getfield 154, 3) := by decide +kernel
theorem dX4_close_28 : decode cX4_close 28 = .ok (.iconst 1, 1) := by decide +kernel
theorem dX4_close_29 : decode cX4_close 29 = .ok (.isub, 1) := by decide +kernel
theorem dX4_close_30 : decode cX4_close 30 = .ok (.istore_n 2, 1) := by decide +kernel
theorem dX4_close_31 : decode cX4_close 31 = .ok (.iload_n 2, 1) := by decide +kernel
theorem dX4_close_32 : decode cX4_close 32 = .ok (.ifCond .lt 35, 3) := by decide +kernel
theorem dX4_close_35 : decode cX4_close 35 = .ok (.aload_n 0, 1) := by decide +kernel
theorem dX4_close_36 : decode cX4_close 36 = .ok (.getfield 40, 3) := by decide +kernel
theorem dX4_close_39 : decode cX4_close 39 = .ok (.iload_n 2, 1) := by decide +kernel
theorem dX4_close_40 : decode cX4_close 40 = .ok (.baload, 1) := by decide +kernel
theorem dX4_close_41 : decode cX4_close 41 = .ok (.ifCond .eq 20, 3) := by decide +kernel
theorem dX4_close_44 : decode cX4_close 44 = .ok (.aload_n 0, 1) := by decide +kernel
theorem dX4_close_45 : decode cX4_close 45 = .ok (.getfield 34, 3) := by decide +kernel
theorem dX4_close_48 : decode cX4_close 48 = .ok (.iload_n 2, 1) := by decide +kernel
theorem dX4_close_49 : decode cX4_close 49 = .ok (.iaload, 1) := by decide +kernel
theorem dX4_close_50 : decode cX4_close 50 = .ok (.ifCond .ne 11, 3) := by decide +kernel
theorem dX4_close_53 : decode cX4_close 53 = .ok (.aload_n 0, 1) := by decide +kernel
theorem dX4_close_54 : decode cX4_close 54 = .ok (.iload_n 2, 1) := by decide +kernel
theorem dX4_close_55 : decode cX4_close 55 = .ok (.invokevirtual 199, 3) := by decide +kernel
theorem dX4_close_58 : decode cX4_close 58 = .ok (.iinc 1 1, 3) := by decide +kernel
theorem dX4_close_61 : decode cX4_close 61 = .ok (.iinc 2 (-1), 3) := by decide +kernel
theorem dX4_close_64 : decode cX4_close 64 = .ok (.goto (-33), 3) := by decide +kernel
theorem dX4_close_67 : decode cX4_close 67 = .ok (.iload_n 1, 1) := by decide +kernel
theorem dX4_close_68 : decode cX4_close 68 = .ok (.ireturn, 1) := by decide +kernel
theorem dX4_instances_0 : decode cX4_instances 0 = .ok (.aload_n 0, 1) := by decide +kernel
theorem dX4_instances_1 : decode cX4_instances 1 = .ok (.iconst 0, 1) := by decide +kernel
theorem dX4_instances_2 : decode cX4_instances 2 = .ok (.putfield 72, 3) := by decide +kernel
theorem dX4_instances_5 : decode cX4_instances 5 = .ok (.aload_n 0, 1) := by decide +kernel
theorem dX4_instances_6 : decode cX4_instances 6 = .ok (.getfield 154, 3) := by decide +kernel
theorem dX4_instances_9 : decode cX4_instances 9 = .ok (.ireturn, 1) := by decide +kernel
theorem dX4_componentOf_0 : decode cX4_componentOf 0 = .ok (.aload_n 0, 1) := by decide +kernel
theorem dX4_componentOf_1 : decode cX4_componentOf 1 = .ok (.aload_n 0, 1) := by decide +kernel
theorem dX4_componentOf_2 : decode cX4_componentOf 2 = .ok (.iload_n 1, 1) := by decide +kernel
theorem dX4_componentOf_3 : decode cX4_componentOf 3 = .ok (.invokevirtual 214, 3) := by decide +kernel
theorem dX4_componentOf_6 : decode cX4_componentOf 6 = .ok (.ifCond .eq 7, 3) := by decide +kernel
theorem dX4_componentOf_9 : decode cX4_componentOf 9 = .ok (.iconst 0, 1) := by decide +kernel
theorem dX4_componentOf_10 : decode cX4_componentOf 10 = .ok (.goto 4, 3) := by decide +kernel
theorem dX4_componentOf_13 : decode cX4_componentOf 13 = .ok (.iconst 1, 1) := by decide +kernel
theorem dX4_componentOf_14 : decode cX4_componentOf 14 = .ok (.putfield 72, 3) := by decide +kernel
theorem dX4_componentOf_17 : decode cX4_componentOf 17 = .ok (.aload_n 0, 1) := by decide +kernel
theorem dX4_componentOf_18 : decode cX4_componentOf 18 = .ok (.getfield 72, 3) := by decide +kernel
theorem dX4_componentOf_21 : decode cX4_componentOf 21 = .ok (.ifCond .eq 7, 3) := by decide +kernel
theorem dX4_componentOf_24 : decode cX4_componentOf 24 = .ok (.iconst 0, 1) := by decide +kernel
theorem dX4_componentOf_25 : decode cX4_componentOf 25 = .ok (.goto 9, 3) := by decide +kernel
theorem dX4_componentOf_28 : decode cX4_componentOf 28 = .ok (.aload_n 0, 1) := by decide +kernel
theorem dX4_componentOf_29 : decode cX4_componentOf 29 = .ok (.getfield 31, 3) := by decide +kernel
theorem dX4_componentOf_32 : decode cX4_componentOf 32 = .ok (.iload_n 1, 1) := by decide +kernel
theorem dX4_componentOf_33 : decode cX4_componentOf 33 = .ok (.iaload, 1) := by decide +kernel
theorem dX4_componentOf_34 : decode cX4_componentOf 34 = .ok (.ireturn, 1) := by decide +kernel
theorem dX4_isAlive_0 : decode cX4_isAlive 0 = .ok (.aload_n 0, 1) := by decide +kernel
theorem dX4_isAlive_1 : decode cX4_isAlive 1 = .ok (.aload_n 0, 1) := by decide +kernel
theorem dX4_isAlive_2 : decode cX4_isAlive 2 = .ok (.iload_n 1, 1) := by decide +kernel
theorem dX4_isAlive_3 : decode cX4_isAlive 3 = .ok (.invokevirtual 214, 3) := by decide +kernel
theorem dX4_isAlive_6 : decode cX4_isAlive 6 = .ok (.ifCond .eq 7, 3) := by decide +kernel
theorem dX4_isAlive_9 : decode cX4_isAlive 9 = .ok (.iconst 0, 1) := by decide +kernel
theorem dX4_isAlive_10 : decode cX4_isAlive 10 = .ok (.goto 4, 3) := by decide +kernel
theorem dX4_isAlive_13 : decode cX4_isAlive 13 = .ok (.iconst 1, 1) := by decide +kernel
theorem dX4_isAlive_14 : decode cX4_isAlive 14 = .ok (.putfield 72, 3) := by decide +kernel
theorem dX4_isAlive_17 : decode cX4_isAlive 17 = .ok (.aload_n 0, 1) := by decide +kernel
theorem dX4_isAlive_18 : decode cX4_isAlive 18 = .ok (.getfield 72, 3) := by decide +kernel
theorem dX4_isAlive_21 : decode cX4_isAlive 21 = .ok (.ifCond .ne 16, 3) := by decide +kernel
theorem dX4_isAlive_24 : decode cX4_isAlive 24 = .ok (.aload_n 0, 1) := by decide +kernel
theorem dX4_isAlive_25 : decode cX4_isAlive 25 = .ok (.getfield 40, 3) := by decide +kernel
theorem dX4_isAlive_28 : decode cX4_isAlive 28 = .ok (.iload_n 1, 1) := by decide +kernel
theorem dX4_isAlive_29 : decode cX4_isAlive 29 = .ok (.baload, 1) := by decide +kernel
theorem dX4_isAlive_30 : decode cX4_isAlive 30 = .ok (.ifCond .eq 7, 3) := by decide +kernel
theorem dX4_isAlive_33 : decode cX4_isAlive 33 = .ok (.iconst 1, 1) := by decide +kernel
theorem dX4_isAlive_34 : decode cX4_isAlive 34 = .ok (.goto 4, 3) := by decide +kernel
theorem dX4_isAlive_37 : decode cX4_isAlive 37 = .ok (.iconst 0, 1) := by decide +kernel
theorem dX4_isAlive_38 : decode cX4_isAlive 38 = .ok (.ireturn, 1) := by decide +kernel
theorem dX4_injected_0 : decode cX4_injected 0 = .ok (.aload_n 0, 1) := by decide +kernel
theorem dX4_injected_1 : decode cX4_injected 1 = .ok (.aload_n 0, 1) := by decide +kernel
theorem dX4_injected_2 : decode cX4_injected 2 = .ok (.iload_n 1, 1) := by decide +kernel
theorem dX4_injected_3 : decode cX4_injected 3 = .ok (.invokevirtual 214, 3) := by decide +kernel
theorem dX4_injected_6 : decode cX4_injected 6 = .ok (.ifCond .ne 7, 3) := by decide +kernel
theorem dX4_injected_9 : decode cX4_injected 9 = .ok (.iconst 1, 1) := by decide +kernel
theorem dX4_injected_10 : decode cX4_injected 10 = .ok (.goto 24, 3) := by decide +kernel
theorem dX4_injected_13 : decode cX4_injected 13 = .ok (.iload_n 2, 1) := by decide +kernel
theorem dX4_injected_14 : decode cX4_injected 14 = .ok (.iconst 0, 1) := by decide +kernel
theorem dX4_injected_15 : decode cX4_injected 15 = .ok (.aload_n 0, 1) := by decide +kernel
theorem dX4_injected_16 : decode cX4_injected 16 = .ok (.getfield 44, 3) := by decide +kernel
theorem dX4_injected_19 : decode cX4_injected 19 = .ok (.iload_n 1, 1) := by decide +kernel
theorem dX4_injected_20 : decode cX4_injected 20 = .ok (.iaload, 1) := by decide +kernel
theorem dX4_injected_21 : decode cX4_injected 21 = .ok (.iconst 1, 1) := by decide +kernel
theorem dX4_injected_22 : decode cX4_injected 22 = .ok (.isub, 1) := by decide +kernel
theorem dX4_injected_23 : decode cX4_injected 23 = .ok (.invokestatic 78, 3) := by decide +kernel
theorem dX4_injected_26 : decode cX4_injected 26 = .ok (.ifCond .ne 7, 3) := by decide +kernel
theorem dX4_injected_29 : decode cX4_injected 29 = .ok (.iconst 2, 1) := by decide +kernel
theorem dX4_injected_30 : decode cX4_injected 30 = .ok (.goto 4, 3) := by decide +kernel
theorem dX4_injected_33 : decode cX4_injected 33 = .ok (.iconst 0, 1) := by decide +kernel
theorem dX4_injected_34 : decode cX4_injected 34 = .ok (.putfield 72, 3) := by decide +kernel
theorem dX4_injected_37 : decode cX4_injected 37 = .ok (.aload_n 0, 1) := by decide +kernel
theorem dX4_injected_38 : decode cX4_injected 38 = .ok (.getfield 72, 3) := by decide +kernel
theorem dX4_injected_41 : decode cX4_injected 41 = .ok (.ifCond .eq 7, 3) := by decide +kernel
theorem dX4_injected_44 : decode cX4_injected 44 = .ok (.iconst 0, 1) := by decide +kernel
theorem dX4_injected_45 : decode cX4_injected 45 = .ok (.goto 14, 3) := by decide +kernel
theorem dX4_injected_48 : decode cX4_injected 48 = .ok (.aload_n 0, 1) := by decide +kernel
theorem dX4_injected_49 : decode cX4_injected 49 = .ok (.getfield 47, 3) := by decide +kernel
theorem dX4_injected_52 : decode cX4_injected 52 = .ok (.bipush 6, 2) := by decide +kernel
theorem dX4_injected_54 : decode cX4_injected 54 = .ok (.iload_n 1, 1) := by decide +kernel
theorem dX4_injected_55 : decode cX4_injected 55 = .ok (.imul, 1) := by decide +kernel
theorem dX4_injected_56 : decode cX4_injected 56 = .ok (.iload_n 2, 1) := by decide +kernel
theorem dX4_injected_57 : decode cX4_injected 57 = .ok (.iadd, 1) := by decide +kernel
theorem dX4_injected_58 : decode cX4_injected 58 = .ok (.iaload, 1) := by decide +kernel
theorem dX4_injected_59 : decode cX4_injected 59 = .ok (.ireturn, 1) := by decide +kernel
theorem dX4_event_0 : decode cX4_event 0 = .ok (.aload_n 0, 1) := by decide +kernel
theorem dX4_event_1 : decode cX4_event 1 = .ok (.iconst 0, 1) := by decide +kernel
theorem dX4_event_2 : decode cX4_event 2 = .ok (.putfield 72, 3) := by decide +kernel
theorem dX4_event_5 : decode cX4_event 5 = .ok (.iload_n 1, 1) := by decide +kernel
theorem dX4_event_6 : decode cX4_event 6 = .ok (.iconst (-1), 1) := by decide +kernel
theorem dX4_event_7 : decode cX4_event 7 = .ok (.if_icmp .ne 10, 3) := by decide +kernel
theorem dX4_event_10 : decode cX4_event 10 = .ok (.aload_n 0, 1) := by decide +kernel
theorem dX4_event_11 : decode cX4_event 11 = .ok (.getfield 175, 3) := by decide +kernel
theorem dX4_event_14 : decode cX4_event 14 = .ok (.goto 27, 3) := by decide +kernel
theorem dX4_event_17 : decode cX4_event 17 = .ok (.iload_n 1, 1) := by decide +kernel
theorem dX4_event_18 : decode cX4_event 18 = .ok (.iconst 0, 1) := by decide +kernel
theorem dX4_event_19 : decode cX4_event 19 = .ok (.aload_n 0, 1) := by decide +kernel
theorem dX4_event_20 : decode cX4_event 20 = .ok (.getfield 175, 3) := by decide +kernel
theorem dX4_event_23 : decode cX4_event 23 = .ok (.iconst 1, 1) := by decide +kernel
theorem dX4_event_24 : decode cX4_event 24 = .ok (.isub, 1) := by decide +kernel
theorem dX4_event_25 : decode cX4_event 25 = .ok (.invokestatic 78, 3) := by decide +kernel
theorem dX4_event_28 : decode cX4_event 28 = .ok (.ifCond .eq 12, 3) := by decide +kernel
theorem dX4_event_31 : decode cX4_event 31 = .ok (.aload_n 0, 1) := by decide +kernel
theorem dX4_event_32 : decode cX4_event 32 = .ok (.getfield 50, 3) := by decide +kernel
theorem dX4_event_35 : decode cX4_event 35 = .ok (.iload_n 1, 1) := by decide +kernel
theorem dX4_event_36 : decode cX4_event 36 = .ok (.iaload, 1) := by decide +kernel
theorem dX4_event_37 : decode cX4_event 37 = .ok (.goto 4, 3) := by decide +kernel
theorem dX4_event_40 : decode cX4_event 40 = .ok (.iconst (-1), 1) := by decide +kernel
theorem dX4_event_41 : decode cX4_event 41 = .ok (.ireturn, 1) := by decide +kernel
theorem dX4_failureKind_0 : decode cX4_failureKind 0 = .ok (.aload_n 0, 1) := by decide +kernel
theorem dX4_failureKind_1 : decode cX4_failureKind 1 = .ok (.iconst 0, 1) := by decide +kernel
theorem dX4_failureKind_2 : decode cX4_failureKind 2 = .ok (.putfield 72, 3) := by decide +kernel
theorem dX4_failureKind_5 : decode cX4_failureKind 5 = .ok (.aload_n 0, 1) := by decide +kernel
theorem dX4_failureKind_6 : decode cX4_failureKind 6 = .ok (.getfield 193, 3) := by decide +kernel
theorem dX4_failureKind_9 : decode cX4_failureKind 9 = .ok (.ireturn, 1) := by decide +kernel
theorem dX4_failureDetail_0 : decode cX4_failureDetail 0 = .ok (.aload_n 0, 1) := by decide +kernel
theorem dX4_failureDetail_1 : decode cX4_failureDetail 1 = .ok (.iconst 0, 1) := by decide +kernel
theorem dX4_failureDetail_2 : decode cX4_failureDetail 2 = .ok (.putfield 72, 3) := by decide +kernel
theorem dX4_failureDetail_5 : decode cX4_failureDetail 5 = .ok (.aload_n 0, 1) := by decide +kernel
theorem dX4_failureDetail_6 : decode cX4_failureDetail 6 = .ok (.getfield 68, 3) := by decide +kernel
theorem dX4_failureDetail_9 : decode cX4_failureDetail 9 = .ok (.ireturn, 1) := by decide +kernel
theorem dX4_failureChain_0 : decode cX4_failureChain 0 = .ok (.aload_n 0, 1) := by decide +kernel
theorem dX4_failureChain_1 : decode cX4_failureChain 1 = .ok (.iconst 0, 1) := by decide +kernel
theorem dX4_failureChain_2 : decode cX4_failureChain 2 = .ok (.putfield 72, 3) := by decide +kernel
theorem dX4_failureChain_5 : decode cX4_failureChain 5 = .ok (.iload_n 1, 1) := by decide +kernel
theorem dX4_failureChain_6 : decode cX4_failureChain 6 = .ok (.iconst (-1), 1) := by decide +kernel
theorem dX4_failureChain_7 : decode cX4_failureChain 7 = .ok (.if_icmp .ne 10, 3) := by decide +kernel
theorem dX4_failureChain_10 : decode cX4_failureChain 10 = .ok (.aload_n 0, 1) := by decide +kernel
theorem dX4_failureChain_11 : decode cX4_failureChain 11 = .ok (.getfield 196, 3) := by decide +kernel
theorem dX4_failureChain_14 : decode cX4_failureChain 14 = .ok (.goto 27, 3) := by decide +kernel
theorem dX4_failureChain_17 : decode cX4_failureChain 17 = .ok (.iload_n 1, 1) := by decide +kernel
theorem dX4_failureChain_18 : decode cX4_failureChain 18 = .ok (.iconst 0, 1) := by decide +kernel
theorem dX4_failureChain_19 : decode cX4_failureChain 19 = .ok (.aload_n 0, 1) := by decide +kernel
theorem dX4_failureChain_20 : decode cX4_failureChain 20 = .ok (.getfield 196, 3) := by decide +kernel
theorem dX4_failureChain_23 : decode cX4_failureChain 23 = .ok (.iconst 1, 1) := by decide +kernel
theorem dX4_failureChain_24 : decode cX4_failureChain 24 = .ok (.isub, 1) := by decide +kernel
theorem dX4_failureChain_25 : decode cX4_failureChain 25 = .ok (.invokestatic 78, 3) := by decide +kernel
theorem dX4_failureChain_28 : decode cX4_failureChain 28 = .ok (.ifCond .eq 12, 3) := by decide +kernel
theorem dX4_failureChain_31 : decode cX4_failureChain 31 = .ok (.aload_n 0, 1) := by decide +kernel
theorem dX4_failureChain_32 : decode cX4_failureChain 32 = .ok (.getfield 53, 3) := by decide +kernel
theorem dX4_failureChain_35 : decode cX4_failureChain 35 = .ok (.iload_n 1, 1) := by decide +kernel
theorem dX4_failureChain_36 : decode cX4_failureChain 36 = .ok (.iaload, 1) := by decide +kernel
theorem dX4_failureChain_37 : decode cX4_failureChain 37 = .ok (.goto 4, 3) := by decide +kernel
theorem dX4_failureChain_40 : decode cX4_failureChain 40 = .ok (.iconst (-1), 1) := by decide +kernel
theorem dX4_failureChain_41 : decode cX4_failureChain 41 = .ok (.ireturn, 1) := by decide +kernel
theorem dJ7_fill_53178_0 : decode cJ7_fill_53178 0 = .ok (.iconst 0, 1) := by decide +kernel
theorem dJ7_fill_53178_1 : decode cJ7_fill_53178 1 = .ok (.istore_n 2, 1) := by decide +kernel
theorem dJ7_fill_53178_2 : decode cJ7_fill_53178 2 = .ok (.aload_n 0, 1) := by decide +kernel
theorem dJ7_fill_53178_3 : decode cJ7_fill_53178 3 = .ok (.arraylength, 1) := by decide +kernel
theorem dJ7_fill_53178_4 : decode cJ7_fill_53178 4 = .ok (.istore_n 3, 1) := by decide +kernel
theorem dJ7_fill_53178_5 : decode cJ7_fill_53178 5 = .ok (.iload_n 2, 1) := by decide +kernel
theorem dJ7_fill_53178_6 : decode cJ7_fill_53178 6 = .ok (.iload_n 3, 1) := by decide +kernel
theorem dJ7_fill_53178_7 : decode cJ7_fill_53178 7 = .ok (.if_icmp .ge 13, 3) := by decide +kernel
theorem dJ7_fill_53178_10 : decode cJ7_fill_53178 10 = .ok (.aload_n 0, 1) := by decide +kernel
theorem dJ7_fill_53178_11 : decode cJ7_fill_53178 11 = .ok (.iload_n 2, 1) := by decide +kernel
theorem dJ7_fill_53178_12 : decode cJ7_fill_53178 12 = .ok (.iload_n 1, 1) := by decide +kernel
theorem dJ7_fill_53178_13 : decode cJ7_fill_53178 13 = .ok (.iastore, 1) := by decide +kernel
theorem dJ7_fill_53178_14 : decode cJ7_fill_53178 14 = .ok (.iinc 2 1, 3) := by decide +kernel
theorem dJ7_fill_53178_17 : decode cJ7_fill_53178 17 = .ok (.goto (-12), 3) := by decide +kernel
theorem dJ7_fill_53178_20 : decode cJ7_fill_53178 20 = .ok (.return_, 1) := by decide +kernel
theorem dL_add_0 : decode cL_add 0 = .ok (.aload_n 3, 1) := by decide +kernel
theorem dL_add_1 : decode cL_add 1 = .ok (.iconst 0, 1) := by decide +kernel
theorem dL_add_2 : decode cL_add 2 = .ok (.aload_n 0, 1) := by decide +kernel
theorem dL_add_3 : decode cL_add 3 = .ok (.iload_n 1, 1) := by decide +kernel
theorem dL_add_4 : decode cL_add 4 = .ok (.iload_n 2, 1) := by decide +kernel
theorem dL_add_5 : decode cL_add 5 = .ok (.invokevirtual 7, 3) := by decide +kernel
theorem dL_add_8 : decode cL_add 8 = .ok (.i2l, 1) := by decide +kernel
theorem dL_add_9 : decode cL_add 9 = .ok (.lastore, 1) := by decide +kernel
theorem dL_add_10 : decode cL_add 10 = .ok (.goto 11, 3) := by decide +kernel
theorem dL_add_13 : decode cL_add 13 = .ok (.astore 4, 2) := by decide +kernel
theorem dL_add_15 : decode cL_add 15 = .ok (.iconst 1, 1) := by decide +kernel
theorem dL_add_16 : decode cL_add 16 = .ok (.ireturn, 1) := by decide +kernel
theorem dL_add_17 : decode cL_add 17 = .ok (.astore 4, 2) := by decide +kernel
theorem dL_add_19 : decode cL_add 19 = .ok (.iconst 2, 1) := by decide +kernel
theorem dL_add_20 : decode cL_add 20 = .ok (.ireturn, 1) := by decide +kernel
theorem dL_add_21 : decode cL_add 21 = .ok (.iconst 0, 1) := by decide +kernel
theorem dL_add_22 : decode cL_add 22 = .ok (.ireturn, 1) := by decide +kernel
theorem dL_set_0 : decode cL_set 0 = .ok (.aload 4, 2) := by decide +kernel
theorem dL_set_2 : decode cL_set 2 = .ok (.iconst 0, 1) := by decide +kernel
theorem dL_set_3 : decode cL_set 3 = .ok (.aload_n 0, 1) := by decide +kernel
theorem dL_set_4 : decode cL_set 4 = .ok (.iload_n 1, 1) := by decide +kernel
theorem dL_set_5 : decode cL_set 5 = .ok (.iload_n 2, 1) := by decide +kernel
theorem dL_set_6 : decode cL_set 6 = .ok (.iload_n 3, 1) := by decide +kernel
theorem dL_set_7 : decode cL_set 7 = .ok (.invokevirtual 17, 3) := by decide +kernel
theorem dL_set_10 : decode cL_set 10 = .ok (.i2l, 1) := by decide +kernel
theorem dL_set_11 : decode cL_set 11 = .ok (.lastore, 1) := by decide +kernel
theorem dL_set_12 : decode cL_set 12 = .ok (.goto 11, 3) := by decide +kernel
theorem dL_set_15 : decode cL_set 15 = .ok (.astore 5, 2) := by decide +kernel
theorem dL_set_17 : decode cL_set 17 = .ok (.iconst 1, 1) := by decide +kernel
theorem dL_set_18 : decode cL_set 18 = .ok (.ireturn, 1) := by decide +kernel
theorem dL_set_19 : decode cL_set 19 = .ok (.astore 5, 2) := by decide +kernel
theorem dL_set_21 : decode cL_set 21 = .ok (.iconst 2, 1) := by decide +kernel
theorem dL_set_22 : decode cL_set 22 = .ok (.ireturn, 1) := by decide +kernel
theorem dL_set_23 : decode cL_set 23 = .ok (.iconst 0, 1) := by decide +kernel
theorem dL_set_24 : decode cL_set 24 = .ok (.ireturn, 1) := by decide +kernel
theorem dL_property_0 : decode cL_property 0 = .ok (.aload_n 3, 1) := by decide +kernel
theorem dL_property_1 : decode cL_property 1 = .ok (.iconst 0, 1) := by decide +kernel
theorem dL_property_2 : decode cL_property 2 = .ok (.aload_n 0, 1) := by decide +kernel
theorem dL_property_3 : decode cL_property 3 = .ok (.iload_n 1, 1) := by decide +kernel
theorem dL_property_4 : decode cL_property 4 = .ok (.iload_n 2, 1) := by decide +kernel
theorem dL_property_5 : decode cL_property 5 = .ok (.invokevirtual 23, 3) := by decide +kernel
theorem dL_property_8 : decode cL_property 8 = .ok (.i2l, 1) := by decide +kernel
theorem dL_property_9 : decode cL_property 9 = .ok (.lastore, 1) := by decide +kernel
theorem dL_property_10 : decode cL_property 10 = .ok (.goto 11, 3) := by decide +kernel
theorem dL_property_13 : decode cL_property 13 = .ok (.astore 4, 2) := by decide +kernel
theorem dL_property_15 : decode cL_property 15 = .ok (.iconst 1, 1) := by decide +kernel
theorem dL_property_16 : decode cL_property 16 = .ok (.ireturn, 1) := by decide +kernel
theorem dL_property_17 : decode cL_property 17 = .ok (.astore 4, 2) := by decide +kernel
theorem dL_property_19 : decode cL_property 19 = .ok (.iconst 2, 1) := by decide +kernel
theorem dL_property_20 : decode cL_property 20 = .ok (.ireturn, 1) := by decide +kernel
theorem dL_property_21 : decode cL_property 21 = .ok (.iconst 0, 1) := by decide +kernel
theorem dL_property_22 : decode cL_property 22 = .ok (.ireturn, 1) := by decide +kernel
theorem dL_depend_0 : decode cL_depend 0 = .ok (.aload 5, 2) := by decide +kernel
theorem dL_depend_2 : decode cL_depend 2 = .ok (.iconst 0, 1) := by decide +kernel
theorem dL_depend_3 : decode cL_depend 3 = .ok (.aload_n 0, 1) := by decide +kernel
theorem dL_depend_4 : decode cL_depend 4 = .ok (.iload_n 1, 1) := by decide +kernel
theorem dL_depend_5 : decode cL_depend 5 = .ok (.iload_n 2, 1) := by decide +kernel
theorem dL_depend_6 : decode cL_depend 6 = .ok (.iload_n 3, 1) := by decide +kernel
theorem dL_depend_7 : decode cL_depend 7 = .ok (.iload 4, 2) := by decide +kernel
theorem dL_depend_9 : decode cL_depend 9 = .ok (.invokevirtual 26, 3) := by decide +kernel
theorem dL_depend_12 : decode cL_depend 12 = .ok (.i2l, 1) := by decide +kernel
theorem dL_depend_13 : decode cL_depend 13 = .ok (.lastore, 1) := by decide +kernel
theorem dL_depend_14 : decode cL_depend 14 = .ok (.goto 15, 3) := by decide +kernel
theorem dL_depend_17 : decode cL_depend 17 = .ok (.astore 6, 2) := by decide +kernel
theorem dL_depend_19 : decode cL_depend 19 = .ok (.iconst 1, 1) := by decide +kernel
theorem dL_depend_20 : decode cL_depend 20 = .ok (.ireturn, 1) := by decide +kernel
theorem dL_depend_21 : decode cL_depend 21 = .ok (.astore 6, 2) := by decide +kernel
theorem dL_depend_23 : decode cL_depend 23 = .ok (.iconst 2, 1) := by decide +kernel
theorem dL_depend_24 : decode cL_depend 24 = .ok (.ireturn, 1) := by decide +kernel
theorem dL_depend_25 : decode cL_depend 25 = .ok (.astore 6, 2) := by decide +kernel
theorem dL_depend_27 : decode cL_depend 27 = .ok (.iconst 3, 1) := by decide +kernel
theorem dL_depend_28 : decode cL_depend 28 = .ok (.ireturn, 1) := by decide +kernel
theorem dL_depend_29 : decode cL_depend 29 = .ok (.iconst 0, 1) := by decide +kernel
theorem dL_depend_30 : decode cL_depend 30 = .ok (.ireturn, 1) := by decide +kernel
theorem dL_clear_0 : decode cL_clear 0 = .ok (.aload_n 2, 1) := by decide +kernel
theorem dL_clear_1 : decode cL_clear 1 = .ok (.iconst 0, 1) := by decide +kernel
theorem dL_clear_2 : decode cL_clear 2 = .ok (.aload_n 0, 1) := by decide +kernel
theorem dL_clear_3 : decode cL_clear 3 = .ok (.iload_n 1, 1) := by decide +kernel
theorem dL_clear_4 : decode cL_clear 4 = .ok (.invokevirtual 30, 3) := by decide +kernel
theorem dL_clear_7 : decode cL_clear 7 = .ok (.i2l, 1) := by decide +kernel
theorem dL_clear_8 : decode cL_clear 8 = .ok (.lastore, 1) := by decide +kernel
theorem dL_clear_9 : decode cL_clear 9 = .ok (.goto 6, 3) := by decide +kernel
theorem dL_clear_12 : decode cL_clear 12 = .ok (.astore_n 3, 1) := by decide +kernel
theorem dL_clear_13 : decode cL_clear 13 = .ok (.iconst 1, 1) := by decide +kernel
theorem dL_clear_14 : decode cL_clear 14 = .ok (.ireturn, 1) := by decide +kernel
theorem dL_clear_15 : decode cL_clear 15 = .ok (.iconst 0, 1) := by decide +kernel
theorem dL_clear_16 : decode cL_clear 16 = .ok (.ireturn, 1) := by decide +kernel
theorem dL_dependency_0 : decode cL_dependency 0 = .ok (.aload 4, 2) := by decide +kernel
theorem dL_dependency_2 : decode cL_dependency 2 = .ok (.iconst 0, 1) := by decide +kernel
theorem dL_dependency_3 : decode cL_dependency 3 = .ok (.aload_n 0, 1) := by decide +kernel
theorem dL_dependency_4 : decode cL_dependency 4 = .ok (.iload_n 1, 1) := by decide +kernel
theorem dL_dependency_5 : decode cL_dependency 5 = .ok (.iload_n 2, 1) := by decide +kernel
theorem dL_dependency_6 : decode cL_dependency 6 = .ok (.iload_n 3, 1) := by decide +kernel
theorem dL_dependency_7 : decode cL_dependency 7 = .ok (.invokevirtual 34, 3) := by decide +kernel
theorem dL_dependency_10 : decode cL_dependency 10 = .ok (.i2l, 1) := by decide +kernel
theorem dL_dependency_11 : decode cL_dependency 11 = .ok (.lastore, 1) := by decide +kernel
theorem dL_dependency_12 : decode cL_dependency 12 = .ok (.goto 11, 3) := by decide +kernel
theorem dL_dependency_15 : decode cL_dependency 15 = .ok (.astore 5, 2) := by decide +kernel
theorem dL_dependency_17 : decode cL_dependency 17 = .ok (.iconst 1, 1) := by decide +kernel
theorem dL_dependency_18 : decode cL_dependency 18 = .ok (.ireturn, 1) := by decide +kernel
theorem dL_dependency_19 : decode cL_dependency 19 = .ok (.astore 5, 2) := by decide +kernel
theorem dL_dependency_21 : decode cL_dependency 21 = .ok (.iconst 2, 1) := by decide +kernel
theorem dL_dependency_22 : decode cL_dependency 22 = .ok (.ireturn, 1) := by decide +kernel
theorem dL_dependency_23 : decode cL_dependency 23 = .ok (.iconst 0, 1) := by decide +kernel
theorem dL_dependency_24 : decode cL_dependency 24 = .ok (.ireturn, 1) := by decide +kernel
theorem dL_profile_0 : decode cL_profile 0 = .ok (.aload_n 3, 1) := by decide +kernel
theorem dL_profile_1 : decode cL_profile 1 = .ok (.iconst 0, 1) := by decide +kernel
theorem dL_profile_2 : decode cL_profile 2 = .ok (.aload_n 0, 1) := by decide +kernel
theorem dL_profile_3 : decode cL_profile 3 = .ok (.iload_n 1, 1) := by decide +kernel
theorem dL_profile_4 : decode cL_profile 4 = .ok (.iload_n 2, 1) := by decide +kernel
theorem dL_profile_5 : decode cL_profile 5 = .ok (.invokevirtual 37, 3) := by decide +kernel
theorem dL_profile_8 : decode cL_profile 8 = .ok (.ifCond .eq 7, 3) := by decide +kernel
theorem dL_profile_11 : decode cL_profile 11 = .ok (.lconst 1, 1) := by decide +kernel
theorem dL_profile_12 : decode cL_profile 12 = .ok (.goto 4, 3) := by decide +kernel
theorem dL_profile_15 : decode cL_profile 15 = .ok (.lconst 0, 1) := by decide +kernel
theorem dL_profile_16 : decode cL_profile 16 = .ok (.lastore, 1) := by decide +kernel
theorem dL_profile_17 : decode cL_profile 17 = .ok (.goto 7, 3) := by decide +kernel
theorem dL_profile_20 : decode cL_profile 20 = .ok (.astore 4, 2) := by decide +kernel
theorem dL_profile_22 : decode cL_profile 22 = .ok (.iconst 1, 1) := by decide +kernel
theorem dL_profile_23 : decode cL_profile 23 = .ok (.ireturn, 1) := by decide +kernel
theorem dL_profile_24 : decode cL_profile 24 = .ok (.iconst 0, 1) := by decide +kernel
theorem dL_profile_25 : decode cL_profile 25 = .ok (.ireturn, 1) := by decide +kernel
theorem dL_candidates_0 : decode cL_candidates 0 = .ok (.aload_n 3, 1) := by decide +kernel
theorem dL_candidates_1 : decode cL_candidates 1 = .ok (.iconst 0, 1) := by decide +kernel
theorem dL_candidates_2 : decode cL_candidates 2 = .ok (.aload_n 0, 1) := by decide +kernel
theorem dL_candidates_3 : decode cL_candidates 3 = .ok (.iload_n 1, 1) := by decide +kernel
theorem dL_candidates_4 : decode cL_candidates 4 = .ok (.iload_n 2, 1) := by decide +kernel
theorem dL_candidates_5 : decode cL_candidates 5 = .ok (.invokevirtual 41, 3) := by decide +kernel
theorem dL_candidates_8 : decode cL_candidates 8 = .ok (.i2l, 1) := by decide +kernel
theorem dL_candidates_9 : decode cL_candidates 9 = .ok (.lastore, 1) := by decide +kernel
theorem dL_candidates_10 : decode cL_candidates 10 = .ok (.goto 7, 3) := by decide +kernel
theorem dL_candidates_13 : decode cL_candidates 13 = .ok (.astore 4, 2) := by decide +kernel
theorem dL_candidates_15 : decode cL_candidates 15 = .ok (.iconst 1, 1) := by decide +kernel
theorem dL_candidates_16 : decode cL_candidates 16 = .ok (.ireturn, 1) := by decide +kernel
theorem dL_candidates_17 : decode cL_candidates 17 = .ok (.iconst 0, 1) := by decide +kernel
theorem dL_candidates_18 : decode cL_candidates 18 = .ok (.ireturn, 1) := by decide +kernel
theorem dL_chosen_0 : decode cL_chosen 0 = .ok (.aload_n 3, 1) := by decide +kernel
theorem dL_chosen_1 : decode cL_chosen 1 = .ok (.iconst 0, 1) := by decide +kernel
theorem dL_chosen_2 : decode cL_chosen 2 = .ok (.aload_n 0, 1) := by decide +kernel
theorem dL_chosen_3 : decode cL_chosen 3 = .ok (.iload_n 1, 1) := by decide +kernel
theorem dL_chosen_4 : decode cL_chosen 4 = .ok (.iload_n 2, 1) := by decide +kernel
theorem dL_chosen_5 : decode cL_chosen 5 = .ok (.invokevirtual 44, 3) := by decide +kernel
theorem dL_chosen_8 : decode cL_chosen 8 = .ok (.i2l, 1) := by decide +kernel
theorem dL_chosen_9 : decode cL_chosen 9 = .ok (.lastore, 1) := by decide +kernel
theorem dL_chosen_10 : decode cL_chosen 10 = .ok (.goto 7, 3) := by decide +kernel
theorem dL_chosen_13 : decode cL_chosen 13 = .ok (.astore 4, 2) := by decide +kernel
theorem dL_chosen_15 : decode cL_chosen 15 = .ok (.iconst 1, 1) := by decide +kernel
theorem dL_chosen_16 : decode cL_chosen 16 = .ok (.ireturn, 1) := by decide +kernel
theorem dL_chosen_17 : decode cL_chosen 17 = .ok (.iconst 0, 1) := by decide +kernel
theorem dL_chosen_18 : decode cL_chosen 18 = .ok (.ireturn, 1) := by decide +kernel
theorem dL_problem_0 : decode cL_problem 0 = .ok (.aload_n 2, 1) := by decide +kernel
theorem dL_problem_1 : decode cL_problem 1 = .ok (.iconst 0, 1) := by decide +kernel
theorem dL_problem_2 : decode cL_problem 2 = .ok (.aload_n 0, 1) := by decide +kernel
theorem dL_problem_3 : decode cL_problem 3 = .ok (.iload_n 1, 1) := by decide +kernel
theorem dL_problem_4 : decode cL_problem 4 = .ok (.invokevirtual 47, 3) := by decide +kernel
theorem dL_problem_7 : decode cL_problem 7 = .ok (.i2l, 1) := by decide +kernel
theorem dL_problem_8 : decode cL_problem 8 = .ok (.lastore, 1) := by decide +kernel
theorem dL_problem_9 : decode cL_problem 9 = .ok (.goto 6, 3) := by decide +kernel
theorem dL_problem_12 : decode cL_problem 12 = .ok (.astore_n 3, 1) := by decide +kernel
theorem dL_problem_13 : decode cL_problem 13 = .ok (.iconst 1, 1) := by decide +kernel
theorem dL_problem_14 : decode cL_problem 14 = .ok (.ireturn, 1) := by decide +kernel
theorem dL_problem_15 : decode cL_problem 15 = .ok (.iconst 0, 1) := by decide +kernel
theorem dL_problem_16 : decode cL_problem 16 = .ok (.ireturn, 1) := by decide +kernel
theorem dL_needs_0 : decode cL_needs 0 = .ok (.aload_n 2, 1) := by decide +kernel
theorem dL_needs_1 : decode cL_needs 1 = .ok (.iconst 0, 1) := by decide +kernel
theorem dL_needs_2 : decode cL_needs 2 = .ok (.aload_n 0, 1) := by decide +kernel
theorem dL_needs_3 : decode cL_needs 3 = .ok (.iload_n 1, 1) := by decide +kernel
theorem dL_needs_4 : decode cL_needs 4 = .ok (.invokevirtual 50, 3) := by decide +kernel
theorem dL_needs_7 : decode cL_needs 7 = .ok (.i2l, 1) := by decide +kernel
theorem dL_needs_8 : decode cL_needs 8 = .ok (.lastore, 1) := by decide +kernel
theorem dL_needs_9 : decode cL_needs 9 = .ok (.goto 6, 3) := by decide +kernel
theorem dL_needs_12 : decode cL_needs 12 = .ok (.astore_n 3, 1) := by decide +kernel
theorem dL_needs_13 : decode cL_needs 13 = .ok (.iconst 1, 1) := by decide +kernel
theorem dL_needs_14 : decode cL_needs 14 = .ok (.ireturn, 1) := by decide +kernel
theorem dL_needs_15 : decode cL_needs 15 = .ok (.iconst 0, 1) := by decide +kernel
theorem dL_needs_16 : decode cL_needs 16 = .ok (.ireturn, 1) := by decide +kernel
theorem dL_resolve_0 : decode cL_resolve 0 = .ok (.aload_n 3, 1) := by decide +kernel
theorem dL_resolve_1 : decode cL_resolve 1 = .ok (.iconst 0, 1) := by decide +kernel
theorem dL_resolve_2 : decode cL_resolve 2 = .ok (.aload_n 0, 1) := by decide +kernel
theorem dL_resolve_3 : decode cL_resolve 3 = .ok (.iload_n 1, 1) := by decide +kernel
theorem dL_resolve_4 : decode cL_resolve 4 = .ok (.iload_n 2, 1) := by decide +kernel
theorem dL_resolve_5 : decode cL_resolve 5 = .ok (.invokevirtual 53, 3) := by decide +kernel
theorem dL_resolve_8 : decode cL_resolve 8 = .ok (.i2l, 1) := by decide +kernel
theorem dL_resolve_9 : decode cL_resolve 9 = .ok (.lastore, 1) := by decide +kernel
theorem dL_resolve_10 : decode cL_resolve 10 = .ok (.goto 11, 3) := by decide +kernel
theorem dL_resolve_13 : decode cL_resolve 13 = .ok (.astore 4, 2) := by decide +kernel
theorem dL_resolve_15 : decode cL_resolve 15 = .ok (.iconst 1, 1) := by decide +kernel
theorem dL_resolve_16 : decode cL_resolve 16 = .ok (.ireturn, 1) := by decide +kernel
theorem dL_resolve_17 : decode cL_resolve 17 = .ok (.astore 4, 2) := by decide +kernel
theorem dL_resolve_19 : decode cL_resolve 19 = .ok (.iconst 2, 1) := by decide +kernel
theorem dL_resolve_20 : decode cL_resolve 20 = .ok (.ireturn, 1) := by decide +kernel
theorem dL_resolve_21 : decode cL_resolve 21 = .ok (.iconst 0, 1) := by decide +kernel
theorem dL_resolve_22 : decode cL_resolve 22 = .ok (.ireturn, 1) := by decide +kernel
theorem dL_provide_0 : decode cL_provide 0 = .ok (.aload_n 3, 1) := by decide +kernel
theorem dL_provide_1 : decode cL_provide 1 = .ok (.iconst 0, 1) := by decide +kernel
theorem dL_provide_2 : decode cL_provide 2 = .ok (.aload_n 0, 1) := by decide +kernel
theorem dL_provide_3 : decode cL_provide 3 = .ok (.iload_n 1, 1) := by decide +kernel
theorem dL_provide_4 : decode cL_provide 4 = .ok (.iload_n 2, 1) := by decide +kernel
theorem dL_provide_5 : decode cL_provide 5 = .ok (.invokevirtual 56, 3) := by decide +kernel
theorem dL_provide_8 : decode cL_provide 8 = .ok (.i2l, 1) := by decide +kernel
theorem dL_provide_9 : decode cL_provide 9 = .ok (.lastore, 1) := by decide +kernel
theorem dL_provide_10 : decode cL_provide 10 = .ok (.goto 15, 3) := by decide +kernel
theorem dL_provide_13 : decode cL_provide 13 = .ok (.astore 4, 2) := by decide +kernel
theorem dL_provide_15 : decode cL_provide 15 = .ok (.iconst 1, 1) := by decide +kernel
theorem dL_provide_16 : decode cL_provide 16 = .ok (.ireturn, 1) := by decide +kernel
theorem dL_provide_17 : decode cL_provide 17 = .ok (.astore 4, 2) := by decide +kernel
theorem dL_provide_19 : decode cL_provide 19 = .ok (.iconst 2, 1) := by decide +kernel
theorem dL_provide_20 : decode cL_provide 20 = .ok (.ireturn, 1) := by decide +kernel
theorem dL_provide_21 : decode cL_provide 21 = .ok (.astore 4, 2) := by decide +kernel
theorem dL_provide_23 : decode cL_provide 23 = .ok (.iconst 3, 1) := by decide +kernel
theorem dL_provide_24 : decode cL_provide 24 = .ok (.ireturn, 1) := by decide +kernel
theorem dL_provide_25 : decode cL_provide 25 = .ok (.iconst 0, 1) := by decide +kernel
theorem dL_provide_26 : decode cL_provide 26 = .ok (.ireturn, 1) := by decide +kernel
theorem dL_start_0 : decode cL_start 0 = .ok (.aload_n 1, 1) := by decide +kernel
theorem dL_start_1 : decode cL_start 1 = .ok (.iconst 0, 1) := by decide +kernel
theorem dL_start_2 : decode cL_start 2 = .ok (.aload_n 0, 1) := by decide +kernel
theorem dL_start_3 : decode cL_start 3 = .ok (.invokevirtual 59, 3) := by decide +kernel
theorem dL_start_6 : decode cL_start 6 = .ok (.i2l, 1) := by decide +kernel
theorem dL_start_7 : decode cL_start 7 = .ok (.lastore, 1) := by decide +kernel
theorem dL_start_8 : decode cL_start 8 = .ok (.goto 6, 3) := by decide +kernel
theorem dL_start_11 : decode cL_start 11 = .ok (.astore_n 2, 1) := by decide +kernel
theorem dL_start_12 : decode cL_start 12 = .ok (.iconst 1, 1) := by decide +kernel
theorem dL_start_13 : decode cL_start 13 = .ok (.ireturn, 1) := by decide +kernel
theorem dL_start_14 : decode cL_start 14 = .ok (.iconst 0, 1) := by decide +kernel
theorem dL_start_15 : decode cL_start 15 = .ok (.ireturn, 1) := by decide +kernel
theorem dL_begin_0 : decode cL_begin 0 = .ok (.aload_n 1, 1) := by decide +kernel
theorem dL_begin_1 : decode cL_begin 1 = .ok (.iconst 0, 1) := by decide +kernel
theorem dL_begin_2 : decode cL_begin 2 = .ok (.aload_n 0, 1) := by decide +kernel
theorem dL_begin_3 : decode cL_begin 3 = .ok (.invokevirtual 63, 3) := by decide +kernel
theorem dL_begin_6 : decode cL_begin 6 = .ok (.i2l, 1) := by decide +kernel
theorem dL_begin_7 : decode cL_begin 7 = .ok (.lastore, 1) := by decide +kernel
theorem dL_begin_8 : decode cL_begin 8 = .ok (.goto 6, 3) := by decide +kernel
theorem dL_begin_11 : decode cL_begin 11 = .ok (.astore_n 2, 1) := by decide +kernel
theorem dL_begin_12 : decode cL_begin 12 = .ok (.iconst 1, 1) := by decide +kernel
theorem dL_begin_13 : decode cL_begin 13 = .ok (.ireturn, 1) := by decide +kernel
theorem dL_begin_14 : decode cL_begin 14 = .ok (.iconst 0, 1) := by decide +kernel
theorem dL_begin_15 : decode cL_begin 15 = .ok (.ireturn, 1) := by decide +kernel
theorem dL_end_0 : decode cL_end 0 = .ok (.aload_n 1, 1) := by decide +kernel
theorem dL_end_1 : decode cL_end 1 = .ok (.iconst 0, 1) := by decide +kernel
theorem dL_end_2 : decode cL_end 2 = .ok (.aload_n 0, 1) := by decide +kernel
theorem dL_end_3 : decode cL_end 3 = .ok (.invokevirtual 66, 3) := by decide +kernel
theorem dL_end_6 : decode cL_end 6 = .ok (.i2l, 1) := by decide +kernel
theorem dL_end_7 : decode cL_end 7 = .ok (.lastore, 1) := by decide +kernel
theorem dL_end_8 : decode cL_end 8 = .ok (.goto 6, 3) := by decide +kernel
theorem dL_end_11 : decode cL_end 11 = .ok (.astore_n 2, 1) := by decide +kernel
theorem dL_end_12 : decode cL_end 12 = .ok (.iconst 1, 1) := by decide +kernel
theorem dL_end_13 : decode cL_end 13 = .ok (.ireturn, 1) := by decide +kernel
theorem dL_end_14 : decode cL_end 14 = .ok (.iconst 0, 1) := by decide +kernel
theorem dL_end_15 : decode cL_end 15 = .ok (.ireturn, 1) := by decide +kernel
theorem dL_componentOf_0 : decode cL_componentOf 0 = .ok (.aload_n 2, 1) := by decide +kernel
theorem dL_componentOf_1 : decode cL_componentOf 1 = .ok (.iconst 0, 1) := by decide +kernel
theorem dL_componentOf_2 : decode cL_componentOf 2 = .ok (.aload_n 0, 1) := by decide +kernel
theorem dL_componentOf_3 : decode cL_componentOf 3 = .ok (.iload_n 1, 1) := by decide +kernel
theorem dL_componentOf_4 : decode cL_componentOf 4 = .ok (.invokevirtual 69, 3) := by decide +kernel
theorem dL_componentOf_7 : decode cL_componentOf 7 = .ok (.i2l, 1) := by decide +kernel
theorem dL_componentOf_8 : decode cL_componentOf 8 = .ok (.lastore, 1) := by decide +kernel
theorem dL_componentOf_9 : decode cL_componentOf 9 = .ok (.goto 6, 3) := by decide +kernel
theorem dL_componentOf_12 : decode cL_componentOf 12 = .ok (.astore_n 3, 1) := by decide +kernel
theorem dL_componentOf_13 : decode cL_componentOf 13 = .ok (.iconst 1, 1) := by decide +kernel
theorem dL_componentOf_14 : decode cL_componentOf 14 = .ok (.ireturn, 1) := by decide +kernel
theorem dL_componentOf_15 : decode cL_componentOf 15 = .ok (.iconst 0, 1) := by decide +kernel
theorem dL_componentOf_16 : decode cL_componentOf 16 = .ok (.ireturn, 1) := by decide +kernel
theorem dL_isAlive_0 : decode cL_isAlive 0 = .ok (.aload_n 2, 1) := by decide +kernel
theorem dL_isAlive_1 : decode cL_isAlive 1 = .ok (.iconst 0, 1) := by decide +kernel
theorem dL_isAlive_2 : decode cL_isAlive 2 = .ok (.aload_n 0, 1) := by decide +kernel
theorem dL_isAlive_3 : decode cL_isAlive 3 = .ok (.iload_n 1, 1) := by decide +kernel
theorem dL_isAlive_4 : decode cL_isAlive 4 = .ok (.invokevirtual 72, 3) := by decide +kernel
theorem dL_isAlive_7 : decode cL_isAlive 7 = .ok (.ifCond .eq 7, 3) := by decide +kernel
theorem dL_isAlive_10 : decode cL_isAlive 10 = .ok (.lconst 1, 1) := by decide +kernel
theorem dL_isAlive_11 : decode cL_isAlive 11 = .ok (.goto 4, 3) := by decide +kernel
theorem dL_isAlive_14 : decode cL_isAlive 14 = .ok (.lconst 0, 1) := by decide +kernel
theorem dL_isAlive_15 : decode cL_isAlive 15 = .ok (.lastore, 1) := by decide +kernel
theorem dL_isAlive_16 : decode cL_isAlive 16 = .ok (.goto 6, 3) := by decide +kernel
theorem dL_isAlive_19 : decode cL_isAlive 19 = .ok (.astore_n 3, 1) := by decide +kernel
theorem dL_isAlive_20 : decode cL_isAlive 20 = .ok (.iconst 1, 1) := by decide +kernel
theorem dL_isAlive_21 : decode cL_isAlive 21 = .ok (.ireturn, 1) := by decide +kernel
theorem dL_isAlive_22 : decode cL_isAlive 22 = .ok (.iconst 0, 1) := by decide +kernel
theorem dL_isAlive_23 : decode cL_isAlive 23 = .ok (.ireturn, 1) := by decide +kernel
theorem dL_injected_0 : decode cL_injected 0 = .ok (.aload_n 3, 1) := by decide +kernel
theorem dL_injected_1 : decode cL_injected 1 = .ok (.iconst 0, 1) := by decide +kernel
theorem dL_injected_2 : decode cL_injected 2 = .ok (.aload_n 0, 1) := by decide +kernel
theorem dL_injected_3 : decode cL_injected 3 = .ok (.iload_n 1, 1) := by decide +kernel
theorem dL_injected_4 : decode cL_injected 4 = .ok (.iload_n 2, 1) := by decide +kernel
theorem dL_injected_5 : decode cL_injected 5 = .ok (.invokevirtual 76, 3) := by decide +kernel
theorem dL_injected_8 : decode cL_injected 8 = .ok (.i2l, 1) := by decide +kernel
theorem dL_injected_9 : decode cL_injected 9 = .ok (.lastore, 1) := by decide +kernel
theorem dL_injected_10 : decode cL_injected 10 = .ok (.goto 11, 3) := by decide +kernel
theorem dL_injected_13 : decode cL_injected 13 = .ok (.astore 4, 2) := by decide +kernel
theorem dL_injected_15 : decode cL_injected 15 = .ok (.iconst 1, 1) := by decide +kernel
theorem dL_injected_16 : decode cL_injected 16 = .ok (.ireturn, 1) := by decide +kernel
theorem dL_injected_17 : decode cL_injected 17 = .ok (.astore 4, 2) := by decide +kernel
theorem dL_injected_19 : decode cL_injected 19 = .ok (.iconst 2, 1) := by decide +kernel
theorem dL_injected_20 : decode cL_injected 20 = .ok (.ireturn, 1) := by decide +kernel
theorem dL_injected_21 : decode cL_injected 21 = .ok (.iconst 0, 1) := by decide +kernel
theorem dL_injected_22 : decode cL_injected 22 = .ok (.ireturn, 1) := by decide +kernel
theorem dL_law_0 : decode cL_law 0 = .ok (.new 8, 3) := by decide +kernel
theorem dL_law_3 : decode cL_law 3 = .ok (.dup, 1) := by decide +kernel
theorem dL_law_4 : decode cL_law 4 = .ok (.invokespecial 79, 3) := by decide +kernel
theorem dL_law_7 : decode cL_law 7 = .ok (.astore_n 1, 1) := by decide +kernel
theorem dL_law_8 : decode cL_law 8 = .ok (.new 80, 3) := by decide +kernel
theorem dL_law_11 : decode cL_law 11 = .ok (.dup, 1) := by decide +kernel
theorem dL_law_12 : decode cL_law 12 = .ok (.invokespecial 82, 3) := by decide +kernel
theorem dL_law_15 : decode cL_law 15 = .ok (.astore_n 2, 1) := by decide +kernel
theorem dL_law_16 : decode cL_law 16 = .ok (.iconst 1, 1) := by decide +kernel
theorem dL_law_17 : decode cL_law 17 = .ok (.newarray .long, 2) := by decide +kernel
theorem dL_law_19 : decode cL_law 19 = .ok (.astore_n 3, 1) := by decide +kernel
theorem dL_law_20 : decode cL_law 20 = .ok (.iconst 0, 1) := by decide +kernel
theorem dL_law_21 : decode cL_law 21 = .ok (.istore 4, 2) := by decide +kernel
theorem dL_law_23 : decode cL_law 23 = .ok (.iload 4, 2) := by decide +kernel
theorem dL_law_25 : decode cL_law 25 = .ok (.aload_n 0, 1) := by decide +kernel
theorem dL_law_26 : decode cL_law 26 = .ok (.arraylength, 1) := by decide +kernel
theorem dL_law_27 : decode cL_law 27 = .ok (.iconst 5, 1) := by decide +kernel
theorem dL_law_28 : decode cL_law 28 = .ok (.isub, 1) := by decide +kernel
theorem dL_law_29 : decode cL_law 29 = .ok (.if_icmp .gt 1486, 3) := by decide +kernel
theorem dL_law_32 : decode cL_law 32 = .ok (.aload_n 0, 1) := by decide +kernel
theorem dL_law_33 : decode cL_law 33 = .ok (.iload 4, 2) := by decide +kernel
theorem dL_law_35 : decode cL_law 35 = .ok (.iaload, 1) := by decide +kernel
theorem dL_law_36 : decode cL_law 36 = .ok (.bipush 31, 2) := by decide +kernel
theorem dL_law_38 : decode cL_law 38 = .ok (.iand, 1) := by decide +kernel
theorem dL_law_39 : decode cL_law 39 = .ok (.tableswitch 1470 0 25 #[117, 185, 265, 333, 425, 481, 561, 652, 665, 733, 801, 857, 913, 981, 1049, 1093, 1137, 1181, 1194, 1207, 1263, 1326, 1394, 1419, 1432, 1445], 117) := by decide +kernel
theorem dL_law_156 : decode cL_law 156 = .ok (.aload_n 1, 1) := by decide +kernel
theorem dL_law_157 : decode cL_law 157 = .ok (.aload_n 0, 1) := by decide +kernel
theorem dL_law_158 : decode cL_law 158 = .ok (.iload 4, 2) := by decide +kernel
theorem dL_law_160 : decode cL_law 160 = .ok (.iconst 1, 1) := by decide +kernel
theorem dL_law_161 : decode cL_law 161 = .ok (.iadd, 1) := by decide +kernel
theorem dL_law_162 : decode cL_law 162 = .ok (.iaload, 1) := by decide +kernel
theorem dL_law_163 : decode cL_law 163 = .ok (.aload_n 0, 1) := by decide +kernel
theorem dL_law_164 : decode cL_law 164 = .ok (.iload 4, 2) := by decide +kernel
theorem dL_law_166 : decode cL_law 166 = .ok (.iconst 2, 1) := by decide +kernel
theorem dL_law_167 : decode cL_law 167 = .ok (.iadd, 1) := by decide +kernel
theorem dL_law_168 : decode cL_law 168 = .ok (.iaload, 1) := by decide +kernel
theorem dL_law_169 : decode cL_law 169 = .ok (.aload_n 3, 1) := by decide +kernel
theorem dL_law_170 : decode cL_law 170 = .ok (.invokestatic 83, 3) := by decide +kernel
theorem dL_law_173 : decode cL_law 173 = .ok (.istore 5, 2) := by decide +kernel
theorem dL_law_175 : decode cL_law 175 = .ok (.aload_n 2, 1) := by decide +kernel
theorem dL_law_176 : decode cL_law 176 = .ok (.aload_n 0, 1) := by decide +kernel
theorem dL_law_177 : decode cL_law 177 = .ok (.iload 4, 2) := by decide +kernel
theorem dL_law_179 : decode cL_law 179 = .ok (.iconst 1, 1) := by decide +kernel
theorem dL_law_180 : decode cL_law 180 = .ok (.iadd, 1) := by decide +kernel
theorem dL_law_181 : decode cL_law 181 = .ok (.iaload, 1) := by decide +kernel
theorem dL_law_182 : decode cL_law 182 = .ok (.aload_n 0, 1) := by decide +kernel
theorem dL_law_183 : decode cL_law 183 = .ok (.iload 4, 2) := by decide +kernel
theorem dL_law_185 : decode cL_law 185 = .ok (.iconst 2, 1) := by decide +kernel
theorem dL_law_186 : decode cL_law 186 = .ok (.iadd, 1) := by decide +kernel
theorem dL_law_187 : decode cL_law 187 = .ok (.iaload, 1) := by decide +kernel
theorem dL_law_188 : decode cL_law 188 = .ok (.invokevirtual 88, 3) := by decide +kernel
theorem dL_law_191 : decode cL_law 191 = .ok (.istore 6, 2) := by decide +kernel
theorem dL_law_193 : decode cL_law 193 = .ok (.aload_n 2, 1) := by decide +kernel
theorem dL_law_194 : decode cL_law 194 = .ok (.invokevirtual 89, 3) := by decide +kernel
theorem dL_law_197 : decode cL_law 197 = .ok (.iload 5, 2) := by decide +kernel
theorem dL_law_199 : decode cL_law 199 = .ok (.if_icmp .eq 5, 3) := by decide +kernel
theorem dL_law_202 : decode cL_law 202 = .ok (.iconst 0, 1) := by decide +kernel
theorem dL_law_203 : decode cL_law 203 = .ok (.ireturn, 1) := by decide +kernel
theorem dL_law_204 : decode cL_law 204 = .ok (.iload 5, 2) := by decide +kernel
theorem dL_law_206 : decode cL_law 206 = .ok (.ifCond .ne 15, 3) := by decide +kernel
theorem dL_law_209 : decode cL_law 209 = .ok (.aload_n 3, 1) := by decide +kernel
theorem dL_law_210 : decode cL_law 210 = .ok (.iconst 0, 1) := by decide +kernel
theorem dL_law_211 : decode cL_law 211 = .ok (.laload, 1) := by decide +kernel
theorem dL_law_212 : decode cL_law 212 = .ok (.iload 6, 2) := by decide +kernel
theorem dL_law_214 : decode cL_law 214 = .ok (.i2l, 1) := by decide +kernel
theorem dL_law_215 : decode cL_law 215 = .ok (.lcmp, 1) := by decide +kernel
theorem dL_law_216 : decode cL_law 216 = .ok (.ifCond .eq 5, 3) := by decide +kernel
theorem dL_law_219 : decode cL_law 219 = .ok (.iconst 0, 1) := by decide +kernel
theorem dL_law_220 : decode cL_law 220 = .ok (.ireturn, 1) := by decide +kernel
theorem dL_law_221 : decode cL_law 221 = .ok (.goto 1288, 3) := by decide +kernel
theorem dL_law_224 : decode cL_law 224 = .ok (.aload_n 1, 1) := by decide +kernel
theorem dL_law_225 : decode cL_law 225 = .ok (.aload_n 0, 1) := by decide +kernel
theorem dL_law_226 : decode cL_law 226 = .ok (.iload 4, 2) := by decide +kernel
theorem dL_law_228 : decode cL_law 228 = .ok (.iconst 1, 1) := by decide +kernel
theorem dL_law_229 : decode cL_law 229 = .ok (.iadd, 1) := by decide +kernel
theorem dL_law_230 : decode cL_law 230 = .ok (.iaload, 1) := by decide +kernel
theorem dL_law_231 : decode cL_law 231 = .ok (.aload_n 0, 1) := by decide +kernel
theorem dL_law_232 : decode cL_law 232 = .ok (.iload 4, 2) := by decide +kernel
theorem dL_law_234 : decode cL_law 234 = .ok (.iconst 2, 1) := by decide +kernel
theorem dL_law_235 : decode cL_law 235 = .ok (.iadd, 1) := by decide +kernel
theorem dL_law_236 : decode cL_law 236 = .ok (.iaload, 1) := by decide +kernel
theorem dL_law_237 : decode cL_law 237 = .ok (.aload_n 0, 1) := by decide +kernel
theorem dL_law_238 : decode cL_law 238 = .ok (.iload 4, 2) := by decide +kernel
theorem dL_law_240 : decode cL_law 240 = .ok (.iconst 3, 1) := by decide +kernel
theorem dL_law_241 : decode cL_law 241 = .ok (.iadd, 1) := by decide +kernel
theorem dL_law_242 : decode cL_law 242 = .ok (.iaload, 1) := by decide +kernel
theorem dL_law_243 : decode cL_law 243 = .ok (.aload_n 3, 1) := by decide +kernel
theorem dL_law_244 : decode cL_law 244 = .ok (.invokestatic 92, 3) := by decide +kernel
theorem dL_law_247 : decode cL_law 247 = .ok (.istore 5, 2) := by decide +kernel
theorem dL_law_249 : decode cL_law 249 = .ok (.aload_n 2, 1) := by decide +kernel
theorem dL_law_250 : decode cL_law 250 = .ok (.aload_n 0, 1) := by decide +kernel
theorem dL_law_251 : decode cL_law 251 = .ok (.iload 4, 2) := by decide +kernel
theorem dL_law_253 : decode cL_law 253 = .ok (.iconst 1, 1) := by decide +kernel
theorem dL_law_254 : decode cL_law 254 = .ok (.iadd, 1) := by decide +kernel
theorem dL_law_255 : decode cL_law 255 = .ok (.iaload, 1) := by decide +kernel
theorem dL_law_256 : decode cL_law 256 = .ok (.aload_n 0, 1) := by decide +kernel
theorem dL_law_257 : decode cL_law 257 = .ok (.iload 4, 2) := by decide +kernel
theorem dL_law_259 : decode cL_law 259 = .ok (.iconst 2, 1) := by decide +kernel
theorem dL_law_260 : decode cL_law 260 = .ok (.iadd, 1) := by decide +kernel
theorem dL_law_261 : decode cL_law 261 = .ok (.iaload, 1) := by decide +kernel
theorem dL_law_262 : decode cL_law 262 = .ok (.aload_n 0, 1) := by decide +kernel
theorem dL_law_263 : decode cL_law 263 = .ok (.iload 4, 2) := by decide +kernel
theorem dL_law_265 : decode cL_law 265 = .ok (.iconst 3, 1) := by decide +kernel
theorem dL_law_266 : decode cL_law 266 = .ok (.iadd, 1) := by decide +kernel
theorem dL_law_267 : decode cL_law 267 = .ok (.iaload, 1) := by decide +kernel
theorem dL_law_268 : decode cL_law 268 = .ok (.invokevirtual 95, 3) := by decide +kernel
theorem dL_law_271 : decode cL_law 271 = .ok (.istore 6, 2) := by decide +kernel
theorem dL_law_273 : decode cL_law 273 = .ok (.aload_n 2, 1) := by decide +kernel
theorem dL_law_274 : decode cL_law 274 = .ok (.invokevirtual 89, 3) := by decide +kernel
theorem dL_law_277 : decode cL_law 277 = .ok (.iload 5, 2) := by decide +kernel
theorem dL_law_279 : decode cL_law 279 = .ok (.if_icmp .eq 5, 3) := by decide +kernel
theorem dL_law_282 : decode cL_law 282 = .ok (.iconst 0, 1) := by decide +kernel
theorem dL_law_283 : decode cL_law 283 = .ok (.ireturn, 1) := by decide +kernel
theorem dL_law_284 : decode cL_law 284 = .ok (.iload 5, 2) := by decide +kernel
theorem dL_law_286 : decode cL_law 286 = .ok (.ifCond .ne 15, 3) := by decide +kernel
theorem dL_law_289 : decode cL_law 289 = .ok (.aload_n 3, 1) := by decide +kernel
theorem dL_law_290 : decode cL_law 290 = .ok (.iconst 0, 1) := by decide +kernel
theorem dL_law_291 : decode cL_law 291 = .ok (.laload, 1) := by decide +kernel
theorem dL_law_292 : decode cL_law 292 = .ok (.iload 6, 2) := by decide +kernel
theorem dL_law_294 : decode cL_law 294 = .ok (.i2l, 1) := by decide +kernel
theorem dL_law_295 : decode cL_law 295 = .ok (.lcmp, 1) := by decide +kernel
theorem dL_law_296 : decode cL_law 296 = .ok (.ifCond .eq 5, 3) := by decide +kernel
theorem dL_law_299 : decode cL_law 299 = .ok (.iconst 0, 1) := by decide +kernel
theorem dL_law_300 : decode cL_law 300 = .ok (.ireturn, 1) := by decide +kernel
theorem dL_law_301 : decode cL_law 301 = .ok (.goto 1208, 3) := by decide +kernel
theorem dL_law_304 : decode cL_law 304 = .ok (.aload_n 1, 1) := by decide +kernel
theorem dL_law_305 : decode cL_law 305 = .ok (.aload_n 0, 1) := by decide +kernel
theorem dL_law_306 : decode cL_law 306 = .ok (.iload 4, 2) := by decide +kernel
theorem dL_law_308 : decode cL_law 308 = .ok (.iconst 1, 1) := by decide +kernel
theorem dL_law_309 : decode cL_law 309 = .ok (.iadd, 1) := by decide +kernel
theorem dL_law_310 : decode cL_law 310 = .ok (.iaload, 1) := by decide +kernel
theorem dL_law_311 : decode cL_law 311 = .ok (.aload_n 0, 1) := by decide +kernel
theorem dL_law_312 : decode cL_law 312 = .ok (.iload 4, 2) := by decide +kernel
theorem dL_law_314 : decode cL_law 314 = .ok (.iconst 2, 1) := by decide +kernel
theorem dL_law_315 : decode cL_law 315 = .ok (.iadd, 1) := by decide +kernel
theorem dL_law_316 : decode cL_law 316 = .ok (.iaload, 1) := by decide +kernel
theorem dL_law_317 : decode cL_law 317 = .ok (.aload_n 3, 1) := by decide +kernel
theorem dL_law_318 : decode cL_law 318 = .ok (.invokestatic 96, 3) := by decide +kernel
theorem dL_law_321 : decode cL_law 321 = .ok (.istore 5, 2) := by decide +kernel
theorem dL_law_323 : decode cL_law 323 = .ok (.aload_n 2, 1) := by decide +kernel
theorem dL_law_324 : decode cL_law 324 = .ok (.aload_n 0, 1) := by decide +kernel
theorem dL_law_325 : decode cL_law 325 = .ok (.iload 4, 2) := by decide +kernel
theorem dL_law_327 : decode cL_law 327 = .ok (.iconst 1, 1) := by decide +kernel
theorem dL_law_328 : decode cL_law 328 = .ok (.iadd, 1) := by decide +kernel
theorem dL_law_329 : decode cL_law 329 = .ok (.iaload, 1) := by decide +kernel
theorem dL_law_330 : decode cL_law 330 = .ok (.aload_n 0, 1) := by decide +kernel
theorem dL_law_331 : decode cL_law 331 = .ok (.iload 4, 2) := by decide +kernel
theorem dL_law_333 : decode cL_law 333 = .ok (.iconst 2, 1) := by decide +kernel
theorem dL_law_334 : decode cL_law 334 = .ok (.iadd, 1) := by decide +kernel
theorem dL_law_335 : decode cL_law 335 = .ok (.iaload, 1) := by decide +kernel
theorem dL_law_336 : decode cL_law 336 = .ok (.invokevirtual 98, 3) := by decide +kernel
theorem dL_law_339 : decode cL_law 339 = .ok (.istore 6, 2) := by decide +kernel
theorem dL_law_341 : decode cL_law 341 = .ok (.aload_n 2, 1) := by decide +kernel
theorem dL_law_342 : decode cL_law 342 = .ok (.invokevirtual 89, 3) := by decide +kernel
theorem dL_law_345 : decode cL_law 345 = .ok (.iload 5, 2) := by decide +kernel
theorem dL_law_347 : decode cL_law 347 = .ok (.if_icmp .eq 5, 3) := by decide +kernel
theorem dL_law_350 : decode cL_law 350 = .ok (.iconst 0, 1) := by decide +kernel
theorem dL_law_351 : decode cL_law 351 = .ok (.ireturn, 1) := by decide +kernel
theorem dL_law_352 : decode cL_law 352 = .ok (.iload 5, 2) := by decide +kernel
theorem dL_law_354 : decode cL_law 354 = .ok (.ifCond .ne 15, 3) := by decide +kernel
theorem dL_law_357 : decode cL_law 357 = .ok (.aload_n 3, 1) := by decide +kernel
theorem dL_law_358 : decode cL_law 358 = .ok (.iconst 0, 1) := by decide +kernel
theorem dL_law_359 : decode cL_law 359 = .ok (.laload, 1) := by decide +kernel
theorem dL_law_360 : decode cL_law 360 = .ok (.iload 6, 2) := by decide +kernel
theorem dL_law_362 : decode cL_law 362 = .ok (.i2l, 1) := by decide +kernel
theorem dL_law_363 : decode cL_law 363 = .ok (.lcmp, 1) := by decide +kernel
theorem dL_law_364 : decode cL_law 364 = .ok (.ifCond .eq 5, 3) := by decide +kernel
theorem dL_law_367 : decode cL_law 367 = .ok (.iconst 0, 1) := by decide +kernel
theorem dL_law_368 : decode cL_law 368 = .ok (.ireturn, 1) := by decide +kernel
theorem dL_law_369 : decode cL_law 369 = .ok (.goto 1140, 3) := by decide +kernel
theorem dL_law_372 : decode cL_law 372 = .ok (.aload_n 1, 1) := by decide +kernel
theorem dL_law_373 : decode cL_law 373 = .ok (.aload_n 0, 1) := by decide +kernel
theorem dL_law_374 : decode cL_law 374 = .ok (.iload 4, 2) := by decide +kernel
theorem dL_law_376 : decode cL_law 376 = .ok (.iconst 1, 1) := by decide +kernel
theorem dL_law_377 : decode cL_law 377 = .ok (.iadd, 1) := by decide +kernel
theorem dL_law_378 : decode cL_law 378 = .ok (.iaload, 1) := by decide +kernel
theorem dL_law_379 : decode cL_law 379 = .ok (.aload_n 0, 1) := by decide +kernel
theorem dL_law_380 : decode cL_law 380 = .ok (.iload 4, 2) := by decide +kernel
theorem dL_law_382 : decode cL_law 382 = .ok (.iconst 2, 1) := by decide +kernel
theorem dL_law_383 : decode cL_law 383 = .ok (.iadd, 1) := by decide +kernel
theorem dL_law_384 : decode cL_law 384 = .ok (.iaload, 1) := by decide +kernel
theorem dL_law_385 : decode cL_law 385 = .ok (.aload_n 0, 1) := by decide +kernel
theorem dL_law_386 : decode cL_law 386 = .ok (.iload 4, 2) := by decide +kernel
theorem dL_law_388 : decode cL_law 388 = .ok (.iconst 3, 1) := by decide +kernel
theorem dL_law_389 : decode cL_law 389 = .ok (.iadd, 1) := by decide +kernel
theorem dL_law_390 : decode cL_law 390 = .ok (.iaload, 1) := by decide +kernel
theorem dL_law_391 : decode cL_law 391 = .ok (.aload_n 0, 1) := by decide +kernel
theorem dL_law_392 : decode cL_law 392 = .ok (.iload 4, 2) := by decide +kernel
theorem dL_law_394 : decode cL_law 394 = .ok (.iconst 4, 1) := by decide +kernel
theorem dL_law_395 : decode cL_law 395 = .ok (.iadd, 1) := by decide +kernel
theorem dL_law_396 : decode cL_law 396 = .ok (.iaload, 1) := by decide +kernel
theorem dL_law_397 : decode cL_law 397 = .ok (.aload_n 3, 1) := by decide +kernel
theorem dL_law_398 : decode cL_law 398 = .ok (.invokestatic 99, 3) := by decide +kernel
theorem dL_law_401 : decode cL_law 401 = .ok (.istore 5, 2) := by decide +kernel
theorem dL_law_403 : decode cL_law 403 = .ok (.aload_n 2, 1) := by decide +kernel
theorem dL_law_404 : decode cL_law 404 = .ok (.aload_n 0, 1) := by decide +kernel
theorem dL_law_405 : decode cL_law 405 = .ok (.iload 4, 2) := by decide +kernel
theorem dL_law_407 : decode cL_law 407 = .ok (.iconst 1, 1) := by decide +kernel
theorem dL_law_408 : decode cL_law 408 = .ok (.iadd, 1) := by decide +kernel
theorem dL_law_409 : decode cL_law 409 = .ok (.iaload, 1) := by decide +kernel
theorem dL_law_410 : decode cL_law 410 = .ok (.aload_n 0, 1) := by decide +kernel
theorem dL_law_411 : decode cL_law 411 = .ok (.iload 4, 2) := by decide +kernel
theorem dL_law_413 : decode cL_law 413 = .ok (.iconst 2, 1) := by decide +kernel
theorem dL_law_414 : decode cL_law 414 = .ok (.iadd, 1) := by decide +kernel
theorem dL_law_415 : decode cL_law 415 = .ok (.iaload, 1) := by decide +kernel
theorem dL_law_416 : decode cL_law 416 = .ok (.aload_n 0, 1) := by decide +kernel
theorem dL_law_417 : decode cL_law 417 = .ok (.iload 4, 2) := by decide +kernel
theorem dL_law_419 : decode cL_law 419 = .ok (.iconst 3, 1) := by decide +kernel
theorem dL_law_420 : decode cL_law 420 = .ok (.iadd, 1) := by decide +kernel
theorem dL_law_421 : decode cL_law 421 = .ok (.iaload, 1) := by decide +kernel
theorem dL_law_422 : decode cL_law 422 = .ok (.aload_n 0, 1) := by decide +kernel
theorem dL_law_423 : decode cL_law 423 = .ok (.iload 4, 2) := by decide +kernel
theorem dL_law_425 : decode cL_law 425 = .ok (.iconst 4, 1) := by decide +kernel
theorem dL_law_426 : decode cL_law 426 = .ok (.iadd, 1) := by decide +kernel
theorem dL_law_427 : decode cL_law 427 = .ok (.iaload, 1) := by decide +kernel
theorem dL_law_428 : decode cL_law 428 = .ok (.invokevirtual 102, 3) := by decide +kernel
theorem dL_law_431 : decode cL_law 431 = .ok (.istore 6, 2) := by decide +kernel
theorem dL_law_433 : decode cL_law 433 = .ok (.aload_n 2, 1) := by decide +kernel
theorem dL_law_434 : decode cL_law 434 = .ok (.invokevirtual 89, 3) := by decide +kernel
theorem dL_law_437 : decode cL_law 437 = .ok (.iload 5, 2) := by decide +kernel
theorem dL_law_439 : decode cL_law 439 = .ok (.if_icmp .eq 5, 3) := by decide +kernel
theorem dL_law_442 : decode cL_law 442 = .ok (.iconst 0, 1) := by decide +kernel
theorem dL_law_443 : decode cL_law 443 = .ok (.ireturn, 1) := by decide +kernel
theorem dL_law_444 : decode cL_law 444 = .ok (.iload 5, 2) := by decide +kernel
theorem dL_law_446 : decode cL_law 446 = .ok (.ifCond .ne 15, 3) := by decide +kernel
theorem dL_law_449 : decode cL_law 449 = .ok (.aload_n 3, 1) := by decide +kernel
theorem dL_law_450 : decode cL_law 450 = .ok (.iconst 0, 1) := by decide +kernel
theorem dL_law_451 : decode cL_law 451 = .ok (.laload, 1) := by decide +kernel
theorem dL_law_452 : decode cL_law 452 = .ok (.iload 6, 2) := by decide +kernel
theorem dL_law_454 : decode cL_law 454 = .ok (.i2l, 1) := by decide +kernel
theorem dL_law_455 : decode cL_law 455 = .ok (.lcmp, 1) := by decide +kernel
theorem dL_law_456 : decode cL_law 456 = .ok (.ifCond .eq 5, 3) := by decide +kernel
theorem dL_law_459 : decode cL_law 459 = .ok (.iconst 0, 1) := by decide +kernel
theorem dL_law_460 : decode cL_law 460 = .ok (.ireturn, 1) := by decide +kernel
theorem dL_law_461 : decode cL_law 461 = .ok (.goto 1048, 3) := by decide +kernel
theorem dL_law_464 : decode cL_law 464 = .ok (.aload_n 1, 1) := by decide +kernel
theorem dL_law_465 : decode cL_law 465 = .ok (.aload_n 0, 1) := by decide +kernel
theorem dL_law_466 : decode cL_law 466 = .ok (.iload 4, 2) := by decide +kernel
theorem dL_law_468 : decode cL_law 468 = .ok (.iconst 1, 1) := by decide +kernel
theorem dL_law_469 : decode cL_law 469 = .ok (.iadd, 1) := by decide +kernel
theorem dL_law_470 : decode cL_law 470 = .ok (.iaload, 1) := by decide +kernel
theorem dL_law_471 : decode cL_law 471 = .ok (.aload_n 3, 1) := by decide +kernel
theorem dL_law_472 : decode cL_law 472 = .ok (.invokestatic 103, 3) := by decide +kernel
theorem dL_law_475 : decode cL_law 475 = .ok (.istore 5, 2) := by decide +kernel
theorem dL_law_477 : decode cL_law 477 = .ok (.aload_n 2, 1) := by decide +kernel
theorem dL_law_478 : decode cL_law 478 = .ok (.aload_n 0, 1) := by decide +kernel
theorem dL_law_479 : decode cL_law 479 = .ok (.iload 4, 2) := by decide +kernel
theorem dL_law_481 : decode cL_law 481 = .ok (.iconst 1, 1) := by decide +kernel
theorem dL_law_482 : decode cL_law 482 = .ok (.iadd, 1) := by decide +kernel
theorem dL_law_483 : decode cL_law 483 = .ok (.iaload, 1) := by decide +kernel
theorem dL_law_484 : decode cL_law 484 = .ok (.invokevirtual 106, 3) := by decide +kernel
theorem dL_law_487 : decode cL_law 487 = .ok (.istore 6, 2) := by decide +kernel
theorem dL_law_489 : decode cL_law 489 = .ok (.aload_n 2, 1) := by decide +kernel
theorem dL_law_490 : decode cL_law 490 = .ok (.invokevirtual 89, 3) := by decide +kernel
theorem dL_law_493 : decode cL_law 493 = .ok (.iload 5, 2) := by decide +kernel
theorem dL_law_495 : decode cL_law 495 = .ok (.if_icmp .eq 5, 3) := by decide +kernel
theorem dL_law_498 : decode cL_law 498 = .ok (.iconst 0, 1) := by decide +kernel
theorem dL_law_499 : decode cL_law 499 = .ok (.ireturn, 1) := by decide +kernel
theorem dL_law_500 : decode cL_law 500 = .ok (.iload 5, 2) := by decide +kernel
theorem dL_law_502 : decode cL_law 502 = .ok (.ifCond .ne 15, 3) := by decide +kernel
theorem dL_law_505 : decode cL_law 505 = .ok (.aload_n 3, 1) := by decide +kernel
theorem dL_law_506 : decode cL_law 506 = .ok (.iconst 0, 1) := by decide +kernel
theorem dL_law_507 : decode cL_law 507 = .ok (.laload, 1) := by decide +kernel
theorem dL_law_508 : decode cL_law 508 = .ok (.iload 6, 2) := by decide +kernel
theorem dL_law_510 : decode cL_law 510 = .ok (.i2l, 1) := by decide +kernel
theorem dL_law_511 : decode cL_law 511 = .ok (.lcmp, 1) := by decide +kernel
theorem dL_law_512 : decode cL_law 512 = .ok (.ifCond .eq 5, 3) := by decide +kernel
theorem dL_law_515 : decode cL_law 515 = .ok (.iconst 0, 1) := by decide +kernel
theorem dL_law_516 : decode cL_law 516 = .ok (.ireturn, 1) := by decide +kernel
theorem dL_law_517 : decode cL_law 517 = .ok (.goto 992, 3) := by decide +kernel
theorem dL_law_520 : decode cL_law 520 = .ok (.aload_n 1, 1) := by decide +kernel
theorem dL_law_521 : decode cL_law 521 = .ok (.aload_n 0, 1) := by decide +kernel
theorem dL_law_522 : decode cL_law 522 = .ok (.iload 4, 2) := by decide +kernel
theorem dL_law_524 : decode cL_law 524 = .ok (.iconst 1, 1) := by decide +kernel
theorem dL_law_525 : decode cL_law 525 = .ok (.iadd, 1) := by decide +kernel
theorem dL_law_526 : decode cL_law 526 = .ok (.iaload, 1) := by decide +kernel
theorem dL_law_527 : decode cL_law 527 = .ok (.aload_n 0, 1) := by decide +kernel
theorem dL_law_528 : decode cL_law 528 = .ok (.iload 4, 2) := by decide +kernel
theorem dL_law_530 : decode cL_law 530 = .ok (.iconst 2, 1) := by decide +kernel
theorem dL_law_531 : decode cL_law 531 = .ok (.iadd, 1) := by decide +kernel
theorem dL_law_532 : decode cL_law 532 = .ok (.iaload, 1) := by decide +kernel
theorem dL_law_533 : decode cL_law 533 = .ok (.aload_n 0, 1) := by decide +kernel
theorem dL_law_534 : decode cL_law 534 = .ok (.iload 4, 2) := by decide +kernel
theorem dL_law_536 : decode cL_law 536 = .ok (.iconst 3, 1) := by decide +kernel
theorem dL_law_537 : decode cL_law 537 = .ok (.iadd, 1) := by decide +kernel
theorem dL_law_538 : decode cL_law 538 = .ok (.iaload, 1) := by decide +kernel
theorem dL_law_539 : decode cL_law 539 = .ok (.aload_n 3, 1) := by decide +kernel
theorem dL_law_540 : decode cL_law 540 = .ok (.invokestatic 107, 3) := by decide +kernel
theorem dL_law_543 : decode cL_law 543 = .ok (.istore 5, 2) := by decide +kernel
theorem dL_law_545 : decode cL_law 545 = .ok (.aload_n 2, 1) := by decide +kernel
theorem dL_law_546 : decode cL_law 546 = .ok (.aload_n 0, 1) := by decide +kernel
theorem dL_law_547 : decode cL_law 547 = .ok (.iload 4, 2) := by decide +kernel
theorem dL_law_549 : decode cL_law 549 = .ok (.iconst 1, 1) := by decide +kernel
theorem dL_law_550 : decode cL_law 550 = .ok (.iadd, 1) := by decide +kernel
theorem dL_law_551 : decode cL_law 551 = .ok (.iaload, 1) := by decide +kernel
theorem dL_law_552 : decode cL_law 552 = .ok (.aload_n 0, 1) := by decide +kernel
theorem dL_law_553 : decode cL_law 553 = .ok (.iload 4, 2) := by decide +kernel
theorem dL_law_555 : decode cL_law 555 = .ok (.iconst 2, 1) := by decide +kernel
theorem dL_law_556 : decode cL_law 556 = .ok (.iadd, 1) := by decide +kernel
theorem dL_law_557 : decode cL_law 557 = .ok (.iaload, 1) := by decide +kernel
theorem dL_law_558 : decode cL_law 558 = .ok (.aload_n 0, 1) := by decide +kernel
theorem dL_law_559 : decode cL_law 559 = .ok (.iload 4, 2) := by decide +kernel
theorem dL_law_561 : decode cL_law 561 = .ok (.iconst 3, 1) := by decide +kernel
theorem dL_law_562 : decode cL_law 562 = .ok (.iadd, 1) := by decide +kernel
theorem dL_law_563 : decode cL_law 563 = .ok (.iaload, 1) := by decide +kernel
theorem dL_law_564 : decode cL_law 564 = .ok (.invokevirtual 109, 3) := by decide +kernel
theorem dL_law_567 : decode cL_law 567 = .ok (.istore 6, 2) := by decide +kernel
theorem dL_law_569 : decode cL_law 569 = .ok (.aload_n 2, 1) := by decide +kernel
theorem dL_law_570 : decode cL_law 570 = .ok (.invokevirtual 89, 3) := by decide +kernel
theorem dL_law_573 : decode cL_law 573 = .ok (.iload 5, 2) := by decide +kernel
theorem dL_law_575 : decode cL_law 575 = .ok (.if_icmp .eq 5, 3) := by decide +kernel
theorem dL_law_578 : decode cL_law 578 = .ok (.iconst 0, 1) := by decide +kernel
theorem dL_law_579 : decode cL_law 579 = .ok (.ireturn, 1) := by decide +kernel
theorem dL_law_580 : decode cL_law 580 = .ok (.iload 5, 2) := by decide +kernel
theorem dL_law_582 : decode cL_law 582 = .ok (.ifCond .ne 15, 3) := by decide +kernel
theorem dL_law_585 : decode cL_law 585 = .ok (.aload_n 3, 1) := by decide +kernel
theorem dL_law_586 : decode cL_law 586 = .ok (.iconst 0, 1) := by decide +kernel
theorem dL_law_587 : decode cL_law 587 = .ok (.laload, 1) := by decide +kernel
theorem dL_law_588 : decode cL_law 588 = .ok (.iload 6, 2) := by decide +kernel
theorem dL_law_590 : decode cL_law 590 = .ok (.i2l, 1) := by decide +kernel
theorem dL_law_591 : decode cL_law 591 = .ok (.lcmp, 1) := by decide +kernel
theorem dL_law_592 : decode cL_law 592 = .ok (.ifCond .eq 5, 3) := by decide +kernel
theorem dL_law_595 : decode cL_law 595 = .ok (.iconst 0, 1) := by decide +kernel
theorem dL_law_596 : decode cL_law 596 = .ok (.ireturn, 1) := by decide +kernel
theorem dL_law_597 : decode cL_law 597 = .ok (.goto 912, 3) := by decide +kernel
theorem dL_law_600 : decode cL_law 600 = .ok (.aload_n 1, 1) := by decide +kernel
theorem dL_law_601 : decode cL_law 601 = .ok (.aload_n 0, 1) := by decide +kernel
theorem dL_law_602 : decode cL_law 602 = .ok (.iload 4, 2) := by decide +kernel
theorem dL_law_604 : decode cL_law 604 = .ok (.iconst 1, 1) := by decide +kernel
theorem dL_law_605 : decode cL_law 605 = .ok (.iadd, 1) := by decide +kernel
theorem dL_law_606 : decode cL_law 606 = .ok (.iaload, 1) := by decide +kernel
theorem dL_law_607 : decode cL_law 607 = .ok (.aload_n 0, 1) := by decide +kernel
theorem dL_law_608 : decode cL_law 608 = .ok (.iload 4, 2) := by decide +kernel
theorem dL_law_610 : decode cL_law 610 = .ok (.iconst 2, 1) := by decide +kernel
theorem dL_law_611 : decode cL_law 611 = .ok (.iadd, 1) := by decide +kernel
theorem dL_law_612 : decode cL_law 612 = .ok (.iaload, 1) := by decide +kernel
theorem dL_law_613 : decode cL_law 613 = .ok (.ifCond .eq 7, 3) := by decide +kernel
theorem dL_law_616 : decode cL_law 616 = .ok (.iconst 1, 1) := by decide +kernel
theorem dL_law_617 : decode cL_law 617 = .ok (.goto 4, 3) := by decide +kernel
theorem dL_law_620 : decode cL_law 620 = .ok (.iconst 0, 1) := by decide +kernel
theorem dL_law_621 : decode cL_law 621 = .ok (.aload_n 3, 1) := by decide +kernel
theorem dL_law_622 : decode cL_law 622 = .ok (.invokestatic 110, 3) := by decide +kernel
theorem dL_law_625 : decode cL_law 625 = .ok (.istore 5, 2) := by decide +kernel
theorem dL_law_627 : decode cL_law 627 = .ok (.aload_n 2, 1) := by decide +kernel
theorem dL_law_628 : decode cL_law 628 = .ok (.aload_n 0, 1) := by decide +kernel
theorem dL_law_629 : decode cL_law 629 = .ok (.iload 4, 2) := by decide +kernel
theorem dL_law_631 : decode cL_law 631 = .ok (.iconst 1, 1) := by decide +kernel
theorem dL_law_632 : decode cL_law 632 = .ok (.iadd, 1) := by decide +kernel
theorem dL_law_633 : decode cL_law 633 = .ok (.iaload, 1) := by decide +kernel
theorem dL_law_634 : decode cL_law 634 = .ok (.aload_n 0, 1) := by decide +kernel
theorem dL_law_635 : decode cL_law 635 = .ok (.iload 4, 2) := by decide +kernel
theorem dL_law_637 : decode cL_law 637 = .ok (.iconst 2, 1) := by decide +kernel
theorem dL_law_638 : decode cL_law 638 = .ok (.iadd, 1) := by decide +kernel
theorem dL_law_639 : decode cL_law 639 = .ok (.iaload, 1) := by decide +kernel
theorem dL_law_640 : decode cL_law 640 = .ok (.ifCond .eq 7, 3) := by decide +kernel
theorem dL_law_643 : decode cL_law 643 = .ok (.iconst 1, 1) := by decide +kernel
theorem dL_law_644 : decode cL_law 644 = .ok (.goto 4, 3) := by decide +kernel
theorem dL_law_647 : decode cL_law 647 = .ok (.iconst 0, 1) := by decide +kernel
theorem dL_law_648 : decode cL_law 648 = .ok (.invokevirtual 113, 3) := by decide +kernel
theorem dL_law_651 : decode cL_law 651 = .ok (.istore 6, 2) := by decide +kernel
theorem dL_law_653 : decode cL_law 653 = .ok (.aload_n 2, 1) := by decide +kernel
theorem dL_law_654 : decode cL_law 654 = .ok (.invokevirtual 89, 3) := by decide +kernel
theorem dL_law_657 : decode cL_law 657 = .ok (.iload 5, 2) := by decide +kernel
theorem dL_law_659 : decode cL_law 659 = .ok (.if_icmp .eq 5, 3) := by decide +kernel
theorem dL_law_662 : decode cL_law 662 = .ok (.iconst 0, 1) := by decide +kernel
theorem dL_law_663 : decode cL_law 663 = .ok (.ireturn, 1) := by decide +kernel
theorem dL_law_664 : decode cL_law 664 = .ok (.iload 5, 2) := by decide +kernel
theorem dL_law_666 : decode cL_law 666 = .ok (.ifCond .ne 22, 3) := by decide +kernel
theorem dL_law_669 : decode cL_law 669 = .ok (.aload_n 3, 1) := by decide +kernel
theorem dL_law_670 : decode cL_law 670 = .ok (.iconst 0, 1) := by decide +kernel
theorem dL_law_671 : decode cL_law 671 = .ok (.laload, 1) := by decide +kernel
theorem dL_law_672 : decode cL_law 672 = .ok (.iload 6, 2) := by decide +kernel
theorem dL_law_674 : decode cL_law 674 = .ok (.ifCond .eq 7, 3) := by decide +kernel
theorem dL_law_677 : decode cL_law 677 = .ok (.lconst 1, 1) := by decide +kernel
theorem dL_law_678 : decode cL_law 678 = .ok (.goto 4, 3) := by decide +kernel
theorem dL_law_681 : decode cL_law 681 = .ok (.lconst 0, 1) := by decide +kernel
theorem dL_law_682 : decode cL_law 682 = .ok (.lcmp, 1) := by decide +kernel
theorem dL_law_683 : decode cL_law 683 = .ok (.ifCond .eq 5, 3) := by decide +kernel
theorem dL_law_686 : decode cL_law 686 = .ok (.iconst 0, 1) := by decide +kernel
theorem dL_law_687 : decode cL_law 687 = .ok (.ireturn, 1) := by decide +kernel
theorem dL_law_688 : decode cL_law 688 = .ok (.goto 821, 3) := by decide +kernel
theorem dL_law_691 : decode cL_law 691 = .ok (.aload_n 1, 1) := by decide +kernel
theorem dL_law_692 : decode cL_law 692 = .ok (.invokevirtual 114, 3) := by decide +kernel
theorem dL_law_695 : decode cL_law 695 = .ok (.aload_n 2, 1) := by decide +kernel
theorem dL_law_696 : decode cL_law 696 = .ok (.invokevirtual 117, 3) := by decide +kernel
theorem dL_law_699 : decode cL_law 699 = .ok (.if_icmp .eq 810, 3) := by decide +kernel
theorem dL_law_702 : decode cL_law 702 = .ok (.iconst 0, 1) := by decide +kernel
theorem dL_law_703 : decode cL_law 703 = .ok (.ireturn, 1) := by decide +kernel
theorem dL_law_704 : decode cL_law 704 = .ok (.aload_n 1, 1) := by decide +kernel
theorem dL_law_705 : decode cL_law 705 = .ok (.aload_n 0, 1) := by decide +kernel
theorem dL_law_706 : decode cL_law 706 = .ok (.iload 4, 2) := by decide +kernel
theorem dL_law_708 : decode cL_law 708 = .ok (.iconst 1, 1) := by decide +kernel
theorem dL_law_709 : decode cL_law 709 = .ok (.iadd, 1) := by decide +kernel
theorem dL_law_710 : decode cL_law 710 = .ok (.iaload, 1) := by decide +kernel
theorem dL_law_711 : decode cL_law 711 = .ok (.aload_n 0, 1) := by decide +kernel
theorem dL_law_712 : decode cL_law 712 = .ok (.iload 4, 2) := by decide +kernel
theorem dL_law_714 : decode cL_law 714 = .ok (.iconst 2, 1) := by decide +kernel
theorem dL_law_715 : decode cL_law 715 = .ok (.iadd, 1) := by decide +kernel
theorem dL_law_716 : decode cL_law 716 = .ok (.iaload, 1) := by decide +kernel
theorem dL_law_717 : decode cL_law 717 = .ok (.aload_n 3, 1) := by decide +kernel
theorem dL_law_718 : decode cL_law 718 = .ok (.invokestatic 118, 3) := by decide +kernel
theorem dL_law_721 : decode cL_law 721 = .ok (.istore 5, 2) := by decide +kernel
theorem dL_law_723 : decode cL_law 723 = .ok (.aload_n 2, 1) := by decide +kernel
theorem dL_law_724 : decode cL_law 724 = .ok (.aload_n 0, 1) := by decide +kernel
theorem dL_law_725 : decode cL_law 725 = .ok (.iload 4, 2) := by decide +kernel
theorem dL_law_727 : decode cL_law 727 = .ok (.iconst 1, 1) := by decide +kernel
theorem dL_law_728 : decode cL_law 728 = .ok (.iadd, 1) := by decide +kernel
theorem dL_law_729 : decode cL_law 729 = .ok (.iaload, 1) := by decide +kernel
theorem dL_law_730 : decode cL_law 730 = .ok (.aload_n 0, 1) := by decide +kernel
theorem dL_law_731 : decode cL_law 731 = .ok (.iload 4, 2) := by decide +kernel
theorem dL_law_733 : decode cL_law 733 = .ok (.iconst 2, 1) := by decide +kernel
theorem dL_law_734 : decode cL_law 734 = .ok (.iadd, 1) := by decide +kernel
theorem dL_law_735 : decode cL_law 735 = .ok (.iaload, 1) := by decide +kernel
theorem dL_law_736 : decode cL_law 736 = .ok (.invokevirtual 120, 3) := by decide +kernel
theorem dL_law_739 : decode cL_law 739 = .ok (.istore 6, 2) := by decide +kernel
theorem dL_law_741 : decode cL_law 741 = .ok (.aload_n 2, 1) := by decide +kernel
theorem dL_law_742 : decode cL_law 742 = .ok (.invokevirtual 89, 3) := by decide +kernel
theorem dL_law_745 : decode cL_law 745 = .ok (.iload 5, 2) := by decide +kernel
theorem dL_law_747 : decode cL_law 747 = .ok (.if_icmp .eq 5, 3) := by decide +kernel
theorem dL_law_750 : decode cL_law 750 = .ok (.iconst 0, 1) := by decide +kernel
theorem dL_law_751 : decode cL_law 751 = .ok (.ireturn, 1) := by decide +kernel
theorem dL_law_752 : decode cL_law 752 = .ok (.iload 5, 2) := by decide +kernel
theorem dL_law_754 : decode cL_law 754 = .ok (.ifCond .ne 15, 3) := by decide +kernel
theorem dL_law_757 : decode cL_law 757 = .ok (.aload_n 3, 1) := by decide +kernel
theorem dL_law_758 : decode cL_law 758 = .ok (.iconst 0, 1) := by decide +kernel
theorem dL_law_759 : decode cL_law 759 = .ok (.laload, 1) := by decide +kernel
theorem dL_law_760 : decode cL_law 760 = .ok (.iload 6, 2) := by decide +kernel
theorem dL_law_762 : decode cL_law 762 = .ok (.i2l, 1) := by decide +kernel
theorem dL_law_763 : decode cL_law 763 = .ok (.lcmp, 1) := by decide +kernel
theorem dL_law_764 : decode cL_law 764 = .ok (.ifCond .eq 5, 3) := by decide +kernel
theorem dL_law_767 : decode cL_law 767 = .ok (.iconst 0, 1) := by decide +kernel
theorem dL_law_768 : decode cL_law 768 = .ok (.ireturn, 1) := by decide +kernel
theorem dL_law_769 : decode cL_law 769 = .ok (.goto 740, 3) := by decide +kernel
theorem dL_law_772 : decode cL_law 772 = .ok (.aload_n 1, 1) := by decide +kernel
theorem dL_law_773 : decode cL_law 773 = .ok (.aload_n 0, 1) := by decide +kernel
theorem dL_law_774 : decode cL_law 774 = .ok (.iload 4, 2) := by decide +kernel
theorem dL_law_776 : decode cL_law 776 = .ok (.iconst 1, 1) := by decide +kernel
theorem dL_law_777 : decode cL_law 777 = .ok (.iadd, 1) := by decide +kernel
theorem dL_law_778 : decode cL_law 778 = .ok (.iaload, 1) := by decide +kernel
theorem dL_law_779 : decode cL_law 779 = .ok (.aload_n 0, 1) := by decide +kernel
theorem dL_law_780 : decode cL_law 780 = .ok (.iload 4, 2) := by decide +kernel
theorem dL_law_782 : decode cL_law 782 = .ok (.iconst 2, 1) := by decide +kernel
theorem dL_law_783 : decode cL_law 783 = .ok (.iadd, 1) := by decide +kernel
theorem dL_law_784 : decode cL_law 784 = .ok (.iaload, 1) := by decide +kernel
theorem dL_law_785 : decode cL_law 785 = .ok (.aload_n 3, 1) := by decide +kernel
theorem dL_law_786 : decode cL_law 786 = .ok (.invokestatic 121, 3) := by decide +kernel
theorem dL_law_789 : decode cL_law 789 = .ok (.istore 5, 2) := by decide +kernel
theorem dL_law_791 : decode cL_law 791 = .ok (.aload_n 2, 1) := by decide +kernel
theorem dL_law_792 : decode cL_law 792 = .ok (.aload_n 0, 1) := by decide +kernel
theorem dL_law_793 : decode cL_law 793 = .ok (.iload 4, 2) := by decide +kernel
theorem dL_law_795 : decode cL_law 795 = .ok (.iconst 1, 1) := by decide +kernel
theorem dL_law_796 : decode cL_law 796 = .ok (.iadd, 1) := by decide +kernel
theorem dL_law_797 : decode cL_law 797 = .ok (.iaload, 1) := by decide +kernel
theorem dL_law_798 : decode cL_law 798 = .ok (.aload_n 0, 1) := by decide +kernel
theorem dL_law_799 : decode cL_law 799 = .ok (.iload 4, 2) := by decide +kernel
theorem dL_law_801 : decode cL_law 801 = .ok (.iconst 2, 1) := by decide +kernel
theorem dL_law_802 : decode cL_law 802 = .ok (.iadd, 1) := by decide +kernel
theorem dL_law_803 : decode cL_law 803 = .ok (.iaload, 1) := by decide +kernel
theorem dL_law_804 : decode cL_law 804 = .ok (.invokevirtual 123, 3) := by decide +kernel
theorem dL_law_807 : decode cL_law 807 = .ok (.istore 6, 2) := by decide +kernel
theorem dL_law_809 : decode cL_law 809 = .ok (.aload_n 2, 1) := by decide +kernel
theorem dL_law_810 : decode cL_law 810 = .ok (.invokevirtual 89, 3) := by decide +kernel
theorem dL_law_813 : decode cL_law 813 = .ok (.iload 5, 2) := by decide +kernel
theorem dL_law_815 : decode cL_law 815 = .ok (.if_icmp .eq 5, 3) := by decide +kernel
theorem dL_law_818 : decode cL_law 818 = .ok (.iconst 0, 1) := by decide +kernel
theorem dL_law_819 : decode cL_law 819 = .ok (.ireturn, 1) := by decide +kernel
theorem dL_law_820 : decode cL_law 820 = .ok (.iload 5, 2) := by decide +kernel
theorem dL_law_822 : decode cL_law 822 = .ok (.ifCond .ne 15, 3) := by decide +kernel
theorem dL_law_825 : decode cL_law 825 = .ok (.aload_n 3, 1) := by decide +kernel
theorem dL_law_826 : decode cL_law 826 = .ok (.iconst 0, 1) := by decide +kernel
theorem dL_law_827 : decode cL_law 827 = .ok (.laload, 1) := by decide +kernel
theorem dL_law_828 : decode cL_law 828 = .ok (.iload 6, 2) := by decide +kernel
theorem dL_law_830 : decode cL_law 830 = .ok (.i2l, 1) := by decide +kernel
theorem dL_law_831 : decode cL_law 831 = .ok (.lcmp, 1) := by decide +kernel
theorem dL_law_832 : decode cL_law 832 = .ok (.ifCond .eq 5, 3) := by decide +kernel
theorem dL_law_835 : decode cL_law 835 = .ok (.iconst 0, 1) := by decide +kernel
theorem dL_law_836 : decode cL_law 836 = .ok (.ireturn, 1) := by decide +kernel
theorem dL_law_837 : decode cL_law 837 = .ok (.goto 672, 3) := by decide +kernel
theorem dL_law_840 : decode cL_law 840 = .ok (.aload_n 1, 1) := by decide +kernel
theorem dL_law_841 : decode cL_law 841 = .ok (.aload_n 0, 1) := by decide +kernel
theorem dL_law_842 : decode cL_law 842 = .ok (.iload 4, 2) := by decide +kernel
theorem dL_law_844 : decode cL_law 844 = .ok (.iconst 1, 1) := by decide +kernel
theorem dL_law_845 : decode cL_law 845 = .ok (.iadd, 1) := by decide +kernel
theorem dL_law_846 : decode cL_law 846 = .ok (.iaload, 1) := by decide +kernel
theorem dL_law_847 : decode cL_law 847 = .ok (.aload_n 3, 1) := by decide +kernel
theorem dL_law_848 : decode cL_law 848 = .ok (.invokestatic 124, 3) := by decide +kernel
theorem dL_law_851 : decode cL_law 851 = .ok (.istore 5, 2) := by decide +kernel
theorem dL_law_853 : decode cL_law 853 = .ok (.aload_n 2, 1) := by decide +kernel
theorem dL_law_854 : decode cL_law 854 = .ok (.aload_n 0, 1) := by decide +kernel
theorem dL_law_855 : decode cL_law 855 = .ok (.iload 4, 2) := by decide +kernel
theorem dL_law_857 : decode cL_law 857 = .ok (.iconst 1, 1) := by decide +kernel
theorem dL_law_858 : decode cL_law 858 = .ok (.iadd, 1) := by decide +kernel
theorem dL_law_859 : decode cL_law 859 = .ok (.iaload, 1) := by decide +kernel
theorem dL_law_860 : decode cL_law 860 = .ok (.invokevirtual 126, 3) := by decide +kernel
theorem dL_law_863 : decode cL_law 863 = .ok (.istore 6, 2) := by decide +kernel
theorem dL_law_865 : decode cL_law 865 = .ok (.aload_n 2, 1) := by decide +kernel
theorem dL_law_866 : decode cL_law 866 = .ok (.invokevirtual 89, 3) := by decide +kernel
theorem dL_law_869 : decode cL_law 869 = .ok (.iload 5, 2) := by decide +kernel
theorem dL_law_871 : decode cL_law 871 = .ok (.if_icmp .eq 5, 3) := by decide +kernel
theorem dL_law_874 : decode cL_law 874 = .ok (.iconst 0, 1) := by decide +kernel
theorem dL_law_875 : decode cL_law 875 = .ok (.ireturn, 1) := by decide +kernel
theorem dL_law_876 : decode cL_law 876 = .ok (.iload 5, 2) := by decide +kernel
theorem dL_law_878 : decode cL_law 878 = .ok (.ifCond .ne 15, 3) := by decide +kernel
theorem dL_law_881 : decode cL_law 881 = .ok (.aload_n 3, 1) := by decide +kernel
theorem dL_law_882 : decode cL_law 882 = .ok (.iconst 0, 1) := by decide +kernel
theorem dL_law_883 : decode cL_law 883 = .ok (.laload, 1) := by decide +kernel
theorem dL_law_884 : decode cL_law 884 = .ok (.iload 6, 2) := by decide +kernel
theorem dL_law_886 : decode cL_law 886 = .ok (.i2l, 1) := by decide +kernel
theorem dL_law_887 : decode cL_law 887 = .ok (.lcmp, 1) := by decide +kernel
theorem dL_law_888 : decode cL_law 888 = .ok (.ifCond .eq 5, 3) := by decide +kernel
theorem dL_law_891 : decode cL_law 891 = .ok (.iconst 0, 1) := by decide +kernel
theorem dL_law_892 : decode cL_law 892 = .ok (.ireturn, 1) := by decide +kernel
theorem dL_law_893 : decode cL_law 893 = .ok (.goto 616, 3) := by decide +kernel
theorem dL_law_896 : decode cL_law 896 = .ok (.aload_n 1, 1) := by decide +kernel
theorem dL_law_897 : decode cL_law 897 = .ok (.aload_n 0, 1) := by decide +kernel
theorem dL_law_898 : decode cL_law 898 = .ok (.iload 4, 2) := by decide +kernel
theorem dL_law_900 : decode cL_law 900 = .ok (.iconst 1, 1) := by decide +kernel
theorem dL_law_901 : decode cL_law 901 = .ok (.iadd, 1) := by decide +kernel
theorem dL_law_902 : decode cL_law 902 = .ok (.iaload, 1) := by decide +kernel
theorem dL_law_903 : decode cL_law 903 = .ok (.aload_n 3, 1) := by decide +kernel
theorem dL_law_904 : decode cL_law 904 = .ok (.invokestatic 127, 3) := by decide +kernel
theorem dL_law_907 : decode cL_law 907 = .ok (.istore 5, 2) := by decide +kernel
theorem dL_law_909 : decode cL_law 909 = .ok (.aload_n 2, 1) := by decide +kernel
theorem dL_law_910 : decode cL_law 910 = .ok (.aload_n 0, 1) := by decide +kernel
theorem dL_law_911 : decode cL_law 911 = .ok (.iload 4, 2) := by decide +kernel
theorem dL_law_913 : decode cL_law 913 = .ok (.iconst 1, 1) := by decide +kernel
theorem dL_law_914 : decode cL_law 914 = .ok (.iadd, 1) := by decide +kernel
theorem dL_law_915 : decode cL_law 915 = .ok (.iaload, 1) := by decide +kernel
theorem dL_law_916 : decode cL_law 916 = .ok (.invokevirtual 129, 3) := by decide +kernel
theorem dL_law_919 : decode cL_law 919 = .ok (.istore 6, 2) := by decide +kernel
theorem dL_law_921 : decode cL_law 921 = .ok (.aload_n 2, 1) := by decide +kernel
theorem dL_law_922 : decode cL_law 922 = .ok (.invokevirtual 89, 3) := by decide +kernel
theorem dL_law_925 : decode cL_law 925 = .ok (.iload 5, 2) := by decide +kernel
theorem dL_law_927 : decode cL_law 927 = .ok (.if_icmp .eq 5, 3) := by decide +kernel
theorem dL_law_930 : decode cL_law 930 = .ok (.iconst 0, 1) := by decide +kernel
theorem dL_law_931 : decode cL_law 931 = .ok (.ireturn, 1) := by decide +kernel
theorem dL_law_932 : decode cL_law 932 = .ok (.iload 5, 2) := by decide +kernel
theorem dL_law_934 : decode cL_law 934 = .ok (.ifCond .ne 15, 3) := by decide +kernel
theorem dL_law_937 : decode cL_law 937 = .ok (.aload_n 3, 1) := by decide +kernel
theorem dL_law_938 : decode cL_law 938 = .ok (.iconst 0, 1) := by decide +kernel
theorem dL_law_939 : decode cL_law 939 = .ok (.laload, 1) := by decide +kernel
theorem dL_law_940 : decode cL_law 940 = .ok (.iload 6, 2) := by decide +kernel
theorem dL_law_942 : decode cL_law 942 = .ok (.i2l, 1) := by decide +kernel
theorem dL_law_943 : decode cL_law 943 = .ok (.lcmp, 1) := by decide +kernel
theorem dL_law_944 : decode cL_law 944 = .ok (.ifCond .eq 5, 3) := by decide +kernel
theorem dL_law_947 : decode cL_law 947 = .ok (.iconst 0, 1) := by decide +kernel
theorem dL_law_948 : decode cL_law 948 = .ok (.ireturn, 1) := by decide +kernel
theorem dL_law_949 : decode cL_law 949 = .ok (.goto 560, 3) := by decide +kernel
theorem dL_law_952 : decode cL_law 952 = .ok (.aload_n 1, 1) := by decide +kernel
theorem dL_law_953 : decode cL_law 953 = .ok (.aload_n 0, 1) := by decide +kernel
theorem dL_law_954 : decode cL_law 954 = .ok (.iload 4, 2) := by decide +kernel
theorem dL_law_956 : decode cL_law 956 = .ok (.iconst 1, 1) := by decide +kernel
theorem dL_law_957 : decode cL_law 957 = .ok (.iadd, 1) := by decide +kernel
theorem dL_law_958 : decode cL_law 958 = .ok (.iaload, 1) := by decide +kernel
theorem dL_law_959 : decode cL_law 959 = .ok (.aload_n 0, 1) := by decide +kernel
theorem dL_law_960 : decode cL_law 960 = .ok (.iload 4, 2) := by decide +kernel
theorem dL_law_962 : decode cL_law 962 = .ok (.iconst 2, 1) := by decide +kernel
theorem dL_law_963 : decode cL_law 963 = .ok (.iadd, 1) := by decide +kernel
theorem dL_law_964 : decode cL_law 964 = .ok (.iaload, 1) := by decide +kernel
theorem dL_law_965 : decode cL_law 965 = .ok (.aload_n 3, 1) := by decide +kernel
theorem dL_law_966 : decode cL_law 966 = .ok (.invokestatic 130, 3) := by decide +kernel
theorem dL_law_969 : decode cL_law 969 = .ok (.istore 5, 2) := by decide +kernel
theorem dL_law_971 : decode cL_law 971 = .ok (.aload_n 2, 1) := by decide +kernel
theorem dL_law_972 : decode cL_law 972 = .ok (.aload_n 0, 1) := by decide +kernel
theorem dL_law_973 : decode cL_law 973 = .ok (.iload 4, 2) := by decide +kernel
theorem dL_law_975 : decode cL_law 975 = .ok (.iconst 1, 1) := by decide +kernel
theorem dL_law_976 : decode cL_law 976 = .ok (.iadd, 1) := by decide +kernel
theorem dL_law_977 : decode cL_law 977 = .ok (.iaload, 1) := by decide +kernel
theorem dL_law_978 : decode cL_law 978 = .ok (.aload_n 0, 1) := by decide +kernel
theorem dL_law_979 : decode cL_law 979 = .ok (.iload 4, 2) := by decide +kernel
theorem dL_law_981 : decode cL_law 981 = .ok (.iconst 2, 1) := by decide +kernel
theorem dL_law_982 : decode cL_law 982 = .ok (.iadd, 1) := by decide +kernel
theorem dL_law_983 : decode cL_law 983 = .ok (.iaload, 1) := by decide +kernel
theorem dL_law_984 : decode cL_law 984 = .ok (.invokevirtual 132, 3) := by decide +kernel
theorem dL_law_987 : decode cL_law 987 = .ok (.istore 6, 2) := by decide +kernel
theorem dL_law_989 : decode cL_law 989 = .ok (.aload_n 2, 1) := by decide +kernel
theorem dL_law_990 : decode cL_law 990 = .ok (.invokevirtual 89, 3) := by decide +kernel
theorem dL_law_993 : decode cL_law 993 = .ok (.iload 5, 2) := by decide +kernel
theorem dL_law_995 : decode cL_law 995 = .ok (.if_icmp .eq 5, 3) := by decide +kernel
theorem dL_law_998 : decode cL_law 998 = .ok (.iconst 0, 1) := by decide +kernel
theorem dL_law_999 : decode cL_law 999 = .ok (.ireturn, 1) := by decide +kernel
theorem dL_law_1000 : decode cL_law 1000 = .ok (.iload 5, 2) := by decide +kernel
theorem dL_law_1002 : decode cL_law 1002 = .ok (.ifCond .ne 15, 3) := by decide +kernel
theorem dL_law_1005 : decode cL_law 1005 = .ok (.aload_n 3, 1) := by decide +kernel
theorem dL_law_1006 : decode cL_law 1006 = .ok (.iconst 0, 1) := by decide +kernel
theorem dL_law_1007 : decode cL_law 1007 = .ok (.laload, 1) := by decide +kernel
theorem dL_law_1008 : decode cL_law 1008 = .ok (.iload 6, 2) := by decide +kernel
theorem dL_law_1010 : decode cL_law 1010 = .ok (.i2l, 1) := by decide +kernel
theorem dL_law_1011 : decode cL_law 1011 = .ok (.lcmp, 1) := by decide +kernel
theorem dL_law_1012 : decode cL_law 1012 = .ok (.ifCond .eq 5, 3) := by decide +kernel
theorem dL_law_1015 : decode cL_law 1015 = .ok (.iconst 0, 1) := by decide +kernel
theorem dL_law_1016 : decode cL_law 1016 = .ok (.ireturn, 1) := by decide +kernel
theorem dL_law_1017 : decode cL_law 1017 = .ok (.goto 492, 3) := by decide +kernel
theorem dL_law_1020 : decode cL_law 1020 = .ok (.aload_n 1, 1) := by decide +kernel
theorem dL_law_1021 : decode cL_law 1021 = .ok (.aload_n 0, 1) := by decide +kernel
theorem dL_law_1022 : decode cL_law 1022 = .ok (.iload 4, 2) := by decide +kernel
theorem dL_law_1024 : decode cL_law 1024 = .ok (.iconst 1, 1) := by decide +kernel
theorem dL_law_1025 : decode cL_law 1025 = .ok (.iadd, 1) := by decide +kernel
theorem dL_law_1026 : decode cL_law 1026 = .ok (.iaload, 1) := by decide +kernel
theorem dL_law_1027 : decode cL_law 1027 = .ok (.aload_n 0, 1) := by decide +kernel
theorem dL_law_1028 : decode cL_law 1028 = .ok (.iload 4, 2) := by decide +kernel
theorem dL_law_1030 : decode cL_law 1030 = .ok (.iconst 2, 1) := by decide +kernel
theorem dL_law_1031 : decode cL_law 1031 = .ok (.iadd, 1) := by decide +kernel
theorem dL_law_1032 : decode cL_law 1032 = .ok (.iaload, 1) := by decide +kernel
theorem dL_law_1033 : decode cL_law 1033 = .ok (.aload_n 3, 1) := by decide +kernel
theorem dL_law_1034 : decode cL_law 1034 = .ok (.invokestatic 133, 3) := by decide +kernel
theorem dL_law_1037 : decode cL_law 1037 = .ok (.istore 5, 2) := by decide +kernel
theorem dL_law_1039 : decode cL_law 1039 = .ok (.aload_n 2, 1) := by decide +kernel
theorem dL_law_1040 : decode cL_law 1040 = .ok (.aload_n 0, 1) := by decide +kernel
theorem dL_law_1041 : decode cL_law 1041 = .ok (.iload 4, 2) := by decide +kernel
theorem dL_law_1043 : decode cL_law 1043 = .ok (.iconst 1, 1) := by decide +kernel
theorem dL_law_1044 : decode cL_law 1044 = .ok (.iadd, 1) := by decide +kernel
theorem dL_law_1045 : decode cL_law 1045 = .ok (.iaload, 1) := by decide +kernel
theorem dL_law_1046 : decode cL_law 1046 = .ok (.aload_n 0, 1) := by decide +kernel
theorem dL_law_1047 : decode cL_law 1047 = .ok (.iload 4, 2) := by decide +kernel
theorem dL_law_1049 : decode cL_law 1049 = .ok (.iconst 2, 1) := by decide +kernel
theorem dL_law_1050 : decode cL_law 1050 = .ok (.iadd, 1) := by decide +kernel
theorem dL_law_1051 : decode cL_law 1051 = .ok (.iaload, 1) := by decide +kernel
theorem dL_law_1052 : decode cL_law 1052 = .ok (.invokevirtual 135, 3) := by decide +kernel
theorem dL_law_1055 : decode cL_law 1055 = .ok (.istore 6, 2) := by decide +kernel
theorem dL_law_1057 : decode cL_law 1057 = .ok (.aload_n 2, 1) := by decide +kernel
theorem dL_law_1058 : decode cL_law 1058 = .ok (.invokevirtual 89, 3) := by decide +kernel
theorem dL_law_1061 : decode cL_law 1061 = .ok (.iload 5, 2) := by decide +kernel
theorem dL_law_1063 : decode cL_law 1063 = .ok (.if_icmp .eq 5, 3) := by decide +kernel
theorem dL_law_1066 : decode cL_law 1066 = .ok (.iconst 0, 1) := by decide +kernel
theorem dL_law_1067 : decode cL_law 1067 = .ok (.ireturn, 1) := by decide +kernel
theorem dL_law_1068 : decode cL_law 1068 = .ok (.iload 5, 2) := by decide +kernel
theorem dL_law_1070 : decode cL_law 1070 = .ok (.ifCond .ne 15, 3) := by decide +kernel
theorem dL_law_1073 : decode cL_law 1073 = .ok (.aload_n 3, 1) := by decide +kernel
theorem dL_law_1074 : decode cL_law 1074 = .ok (.iconst 0, 1) := by decide +kernel
theorem dL_law_1075 : decode cL_law 1075 = .ok (.laload, 1) := by decide +kernel
theorem dL_law_1076 : decode cL_law 1076 = .ok (.iload 6, 2) := by decide +kernel
theorem dL_law_1078 : decode cL_law 1078 = .ok (.i2l, 1) := by decide +kernel
theorem dL_law_1079 : decode cL_law 1079 = .ok (.lcmp, 1) := by decide +kernel
theorem dL_law_1080 : decode cL_law 1080 = .ok (.ifCond .eq 5, 3) := by decide +kernel
theorem dL_law_1083 : decode cL_law 1083 = .ok (.iconst 0, 1) := by decide +kernel
theorem dL_law_1084 : decode cL_law 1084 = .ok (.ireturn, 1) := by decide +kernel
theorem dL_law_1085 : decode cL_law 1085 = .ok (.goto 424, 3) := by decide +kernel
theorem dL_law_1088 : decode cL_law 1088 = .ok (.aload_n 1, 1) := by decide +kernel
theorem dL_law_1089 : decode cL_law 1089 = .ok (.aload_n 3, 1) := by decide +kernel
theorem dL_law_1090 : decode cL_law 1090 = .ok (.invokestatic 136, 3) := by decide +kernel
theorem dL_law_1093 : decode cL_law 1093 = .ok (.istore 5, 2) := by decide +kernel
theorem dL_law_1095 : decode cL_law 1095 = .ok (.aload_n 2, 1) := by decide +kernel
theorem dL_law_1096 : decode cL_law 1096 = .ok (.invokevirtual 139, 3) := by decide +kernel
theorem dL_law_1099 : decode cL_law 1099 = .ok (.istore 6, 2) := by decide +kernel
theorem dL_law_1101 : decode cL_law 1101 = .ok (.aload_n 2, 1) := by decide +kernel
theorem dL_law_1102 : decode cL_law 1102 = .ok (.invokevirtual 89, 3) := by decide +kernel
theorem dL_law_1105 : decode cL_law 1105 = .ok (.iload 5, 2) := by decide +kernel
theorem dL_law_1107 : decode cL_law 1107 = .ok (.if_icmp .eq 5, 3) := by decide +kernel
theorem dL_law_1110 : decode cL_law 1110 = .ok (.iconst 0, 1) := by decide +kernel
theorem dL_law_1111 : decode cL_law 1111 = .ok (.ireturn, 1) := by decide +kernel
theorem dL_law_1112 : decode cL_law 1112 = .ok (.iload 5, 2) := by decide +kernel
theorem dL_law_1114 : decode cL_law 1114 = .ok (.ifCond .ne 15, 3) := by decide +kernel
theorem dL_law_1117 : decode cL_law 1117 = .ok (.aload_n 3, 1) := by decide +kernel
theorem dL_law_1118 : decode cL_law 1118 = .ok (.iconst 0, 1) := by decide +kernel
theorem dL_law_1119 : decode cL_law 1119 = .ok (.laload, 1) := by decide +kernel
theorem dL_law_1120 : decode cL_law 1120 = .ok (.iload 6, 2) := by decide +kernel
theorem dL_law_1122 : decode cL_law 1122 = .ok (.i2l, 1) := by decide +kernel
theorem dL_law_1123 : decode cL_law 1123 = .ok (.lcmp, 1) := by decide +kernel
theorem dL_law_1124 : decode cL_law 1124 = .ok (.ifCond .eq 5, 3) := by decide +kernel
theorem dL_law_1127 : decode cL_law 1127 = .ok (.iconst 0, 1) := by decide +kernel
theorem dL_law_1128 : decode cL_law 1128 = .ok (.ireturn, 1) := by decide +kernel
theorem dL_law_1129 : decode cL_law 1129 = .ok (.goto 380, 3) := by decide +kernel
theorem dL_law_1132 : decode cL_law 1132 = .ok (.aload_n 1, 1) := by decide +kernel
theorem dL_law_1133 : decode cL_law 1133 = .ok (.aload_n 3, 1) := by decide +kernel
theorem dL_law_1134 : decode cL_law 1134 = .ok (.invokestatic 140, 3) := by decide +kernel
theorem dL_law_1137 : decode cL_law 1137 = .ok (.istore 5, 2) := by decide +kernel
theorem dL_law_1139 : decode cL_law 1139 = .ok (.aload_n 2, 1) := by decide +kernel
theorem dL_law_1140 : decode cL_law 1140 = .ok (.invokevirtual 142, 3) := by decide +kernel
theorem dL_law_1143 : decode cL_law 1143 = .ok (.istore 6, 2) := by decide +kernel
theorem dL_law_1145 : decode cL_law 1145 = .ok (.aload_n 2, 1) := by decide +kernel
theorem dL_law_1146 : decode cL_law 1146 = .ok (.invokevirtual 89, 3) := by decide +kernel
theorem dL_law_1149 : decode cL_law 1149 = .ok (.iload 5, 2) := by decide +kernel
theorem dL_law_1151 : decode cL_law 1151 = .ok (.if_icmp .eq 5, 3) := by decide +kernel
theorem dL_law_1154 : decode cL_law 1154 = .ok (.iconst 0, 1) := by decide +kernel
theorem dL_law_1155 : decode cL_law 1155 = .ok (.ireturn, 1) := by decide +kernel
theorem dL_law_1156 : decode cL_law 1156 = .ok (.iload 5, 2) := by decide +kernel
theorem dL_law_1158 : decode cL_law 1158 = .ok (.ifCond .ne 15, 3) := by decide +kernel
theorem dL_law_1161 : decode cL_law 1161 = .ok (.aload_n 3, 1) := by decide +kernel
theorem dL_law_1162 : decode cL_law 1162 = .ok (.iconst 0, 1) := by decide +kernel
theorem dL_law_1163 : decode cL_law 1163 = .ok (.laload, 1) := by decide +kernel
theorem dL_law_1164 : decode cL_law 1164 = .ok (.iload 6, 2) := by decide +kernel
theorem dL_law_1166 : decode cL_law 1166 = .ok (.i2l, 1) := by decide +kernel
theorem dL_law_1167 : decode cL_law 1167 = .ok (.lcmp, 1) := by decide +kernel
theorem dL_law_1168 : decode cL_law 1168 = .ok (.ifCond .eq 5, 3) := by decide +kernel
theorem dL_law_1171 : decode cL_law 1171 = .ok (.iconst 0, 1) := by decide +kernel
theorem dL_law_1172 : decode cL_law 1172 = .ok (.ireturn, 1) := by decide +kernel
theorem dL_law_1173 : decode cL_law 1173 = .ok (.goto 336, 3) := by decide +kernel
theorem dL_law_1176 : decode cL_law 1176 = .ok (.aload_n 1, 1) := by decide +kernel
theorem dL_law_1177 : decode cL_law 1177 = .ok (.aload_n 3, 1) := by decide +kernel
theorem dL_law_1178 : decode cL_law 1178 = .ok (.invokestatic 143, 3) := by decide +kernel
theorem dL_law_1181 : decode cL_law 1181 = .ok (.istore 5, 2) := by decide +kernel
theorem dL_law_1183 : decode cL_law 1183 = .ok (.aload_n 2, 1) := by decide +kernel
theorem dL_law_1184 : decode cL_law 1184 = .ok (.invokevirtual 145, 3) := by decide +kernel
theorem dL_law_1187 : decode cL_law 1187 = .ok (.istore 6, 2) := by decide +kernel
theorem dL_law_1189 : decode cL_law 1189 = .ok (.aload_n 2, 1) := by decide +kernel
theorem dL_law_1190 : decode cL_law 1190 = .ok (.invokevirtual 89, 3) := by decide +kernel
theorem dL_law_1193 : decode cL_law 1193 = .ok (.iload 5, 2) := by decide +kernel
theorem dL_law_1195 : decode cL_law 1195 = .ok (.if_icmp .eq 5, 3) := by decide +kernel
theorem dL_law_1198 : decode cL_law 1198 = .ok (.iconst 0, 1) := by decide +kernel
theorem dL_law_1199 : decode cL_law 1199 = .ok (.ireturn, 1) := by decide +kernel
theorem dL_law_1200 : decode cL_law 1200 = .ok (.iload 5, 2) := by decide +kernel
theorem dL_law_1202 : decode cL_law 1202 = .ok (.ifCond .ne 15, 3) := by decide +kernel
theorem dL_law_1205 : decode cL_law 1205 = .ok (.aload_n 3, 1) := by decide +kernel
theorem dL_law_1206 : decode cL_law 1206 = .ok (.iconst 0, 1) := by decide +kernel
theorem dL_law_1207 : decode cL_law 1207 = .ok (.laload, 1) := by decide +kernel
theorem dL_law_1208 : decode cL_law 1208 = .ok (.iload 6, 2) := by decide +kernel
theorem dL_law_1210 : decode cL_law 1210 = .ok (.i2l, 1) := by decide +kernel
theorem dL_law_1211 : decode cL_law 1211 = .ok (.lcmp, 1) := by decide +kernel
theorem dL_law_1212 : decode cL_law 1212 = .ok (.ifCond .eq 5, 3) := by decide +kernel
theorem dL_law_1215 : decode cL_law 1215 = .ok (.iconst 0, 1) := by decide +kernel
theorem dL_law_1216 : decode cL_law 1216 = .ok (.ireturn, 1) := by decide +kernel
theorem dL_law_1217 : decode cL_law 1217 = .ok (.goto 292, 3) := by decide +kernel
theorem dL_law_1220 : decode cL_law 1220 = .ok (.aload_n 1, 1) := by decide +kernel
theorem dL_law_1221 : decode cL_law 1221 = .ok (.invokevirtual 146, 3) := by decide +kernel
theorem dL_law_1224 : decode cL_law 1224 = .ok (.aload_n 2, 1) := by decide +kernel
theorem dL_law_1225 : decode cL_law 1225 = .ok (.invokevirtual 149, 3) := by decide +kernel
theorem dL_law_1228 : decode cL_law 1228 = .ok (.if_icmp .eq 281, 3) := by decide +kernel
theorem dL_law_1231 : decode cL_law 1231 = .ok (.iconst 0, 1) := by decide +kernel
theorem dL_law_1232 : decode cL_law 1232 = .ok (.ireturn, 1) := by decide +kernel
theorem dL_law_1233 : decode cL_law 1233 = .ok (.aload_n 1, 1) := by decide +kernel
theorem dL_law_1234 : decode cL_law 1234 = .ok (.invokevirtual 150, 3) := by decide +kernel
theorem dL_law_1237 : decode cL_law 1237 = .ok (.aload_n 2, 1) := by decide +kernel
theorem dL_law_1238 : decode cL_law 1238 = .ok (.invokevirtual 153, 3) := by decide +kernel
theorem dL_law_1241 : decode cL_law 1241 = .ok (.if_icmp .eq 268, 3) := by decide +kernel
theorem dL_law_1244 : decode cL_law 1244 = .ok (.iconst 0, 1) := by decide +kernel
theorem dL_law_1245 : decode cL_law 1245 = .ok (.ireturn, 1) := by decide +kernel
theorem dL_law_1246 : decode cL_law 1246 = .ok (.aload_n 1, 1) := by decide +kernel
theorem dL_law_1247 : decode cL_law 1247 = .ok (.aload_n 0, 1) := by decide +kernel
theorem dL_law_1248 : decode cL_law 1248 = .ok (.iload 4, 2) := by decide +kernel
theorem dL_law_1250 : decode cL_law 1250 = .ok (.iconst 1, 1) := by decide +kernel
theorem dL_law_1251 : decode cL_law 1251 = .ok (.iadd, 1) := by decide +kernel
theorem dL_law_1252 : decode cL_law 1252 = .ok (.iaload, 1) := by decide +kernel
theorem dL_law_1253 : decode cL_law 1253 = .ok (.aload_n 3, 1) := by decide +kernel
theorem dL_law_1254 : decode cL_law 1254 = .ok (.invokestatic 154, 3) := by decide +kernel
theorem dL_law_1257 : decode cL_law 1257 = .ok (.istore 5, 2) := by decide +kernel
theorem dL_law_1259 : decode cL_law 1259 = .ok (.aload_n 2, 1) := by decide +kernel
theorem dL_law_1260 : decode cL_law 1260 = .ok (.aload_n 0, 1) := by decide +kernel
theorem dL_law_1261 : decode cL_law 1261 = .ok (.iload 4, 2) := by decide +kernel
theorem dL_law_1263 : decode cL_law 1263 = .ok (.iconst 1, 1) := by decide +kernel
theorem dL_law_1264 : decode cL_law 1264 = .ok (.iadd, 1) := by decide +kernel
theorem dL_law_1265 : decode cL_law 1265 = .ok (.iaload, 1) := by decide +kernel
theorem dL_law_1266 : decode cL_law 1266 = .ok (.invokevirtual 156, 3) := by decide +kernel
theorem dL_law_1269 : decode cL_law 1269 = .ok (.istore 6, 2) := by decide +kernel
theorem dL_law_1271 : decode cL_law 1271 = .ok (.aload_n 2, 1) := by decide +kernel
theorem dL_law_1272 : decode cL_law 1272 = .ok (.invokevirtual 89, 3) := by decide +kernel
theorem dL_law_1275 : decode cL_law 1275 = .ok (.iload 5, 2) := by decide +kernel
theorem dL_law_1277 : decode cL_law 1277 = .ok (.if_icmp .eq 5, 3) := by decide +kernel
theorem dL_law_1280 : decode cL_law 1280 = .ok (.iconst 0, 1) := by decide +kernel
theorem dL_law_1281 : decode cL_law 1281 = .ok (.ireturn, 1) := by decide +kernel
theorem dL_law_1282 : decode cL_law 1282 = .ok (.iload 5, 2) := by decide +kernel
theorem dL_law_1284 : decode cL_law 1284 = .ok (.ifCond .ne 15, 3) := by decide +kernel
theorem dL_law_1287 : decode cL_law 1287 = .ok (.aload_n 3, 1) := by decide +kernel
theorem dL_law_1288 : decode cL_law 1288 = .ok (.iconst 0, 1) := by decide +kernel
theorem dL_law_1289 : decode cL_law 1289 = .ok (.laload, 1) := by decide +kernel
theorem dL_law_1290 : decode cL_law 1290 = .ok (.iload 6, 2) := by decide +kernel
theorem dL_law_1292 : decode cL_law 1292 = .ok (.i2l, 1) := by decide +kernel
theorem dL_law_1293 : decode cL_law 1293 = .ok (.lcmp, 1) := by decide +kernel
theorem dL_law_1294 : decode cL_law 1294 = .ok (.ifCond .eq 5, 3) := by decide +kernel
theorem dL_law_1297 : decode cL_law 1297 = .ok (.iconst 0, 1) := by decide +kernel
theorem dL_law_1298 : decode cL_law 1298 = .ok (.ireturn, 1) := by decide +kernel
theorem dL_law_1299 : decode cL_law 1299 = .ok (.goto 210, 3) := by decide +kernel
theorem dL_law_1302 : decode cL_law 1302 = .ok (.aload_n 1, 1) := by decide +kernel
theorem dL_law_1303 : decode cL_law 1303 = .ok (.aload_n 0, 1) := by decide +kernel
theorem dL_law_1304 : decode cL_law 1304 = .ok (.iload 4, 2) := by decide +kernel
theorem dL_law_1306 : decode cL_law 1306 = .ok (.iconst 1, 1) := by decide +kernel
theorem dL_law_1307 : decode cL_law 1307 = .ok (.iadd, 1) := by decide +kernel
theorem dL_law_1308 : decode cL_law 1308 = .ok (.iaload, 1) := by decide +kernel
theorem dL_law_1309 : decode cL_law 1309 = .ok (.aload_n 3, 1) := by decide +kernel
theorem dL_law_1310 : decode cL_law 1310 = .ok (.invokestatic 157, 3) := by decide +kernel
theorem dL_law_1313 : decode cL_law 1313 = .ok (.istore 5, 2) := by decide +kernel
theorem dL_law_1315 : decode cL_law 1315 = .ok (.aload_n 2, 1) := by decide +kernel
theorem dL_law_1316 : decode cL_law 1316 = .ok (.aload_n 0, 1) := by decide +kernel
theorem dL_law_1317 : decode cL_law 1317 = .ok (.iload 4, 2) := by decide +kernel
theorem dL_law_1319 : decode cL_law 1319 = .ok (.iconst 1, 1) := by decide +kernel
theorem dL_law_1320 : decode cL_law 1320 = .ok (.iadd, 1) := by decide +kernel
theorem dL_law_1321 : decode cL_law 1321 = .ok (.iaload, 1) := by decide +kernel
theorem dL_law_1322 : decode cL_law 1322 = .ok (.invokevirtual 159, 3) := by decide +kernel
theorem dL_law_1325 : decode cL_law 1325 = .ok (.istore 6, 2) := by decide +kernel
theorem dL_law_1327 : decode cL_law 1327 = .ok (.aload_n 2, 1) := by decide +kernel
theorem dL_law_1328 : decode cL_law 1328 = .ok (.invokevirtual 89, 3) := by decide +kernel
theorem dL_law_1331 : decode cL_law 1331 = .ok (.iload 5, 2) := by decide +kernel
theorem dL_law_1333 : decode cL_law 1333 = .ok (.if_icmp .eq 5, 3) := by decide +kernel
theorem dL_law_1336 : decode cL_law 1336 = .ok (.iconst 0, 1) := by decide +kernel
theorem dL_law_1337 : decode cL_law 1337 = .ok (.ireturn, 1) := by decide +kernel
theorem dL_law_1338 : decode cL_law 1338 = .ok (.iload 5, 2) := by decide +kernel
theorem dL_law_1340 : decode cL_law 1340 = .ok (.ifCond .ne 22, 3) := by decide +kernel
theorem dL_law_1343 : decode cL_law 1343 = .ok (.aload_n 3, 1) := by decide +kernel
theorem dL_law_1344 : decode cL_law 1344 = .ok (.iconst 0, 1) := by decide +kernel
theorem dL_law_1345 : decode cL_law 1345 = .ok (.laload, 1) := by decide +kernel
theorem dL_law_1346 : decode cL_law 1346 = .ok (.iload 6, 2) := by decide +kernel
theorem dL_law_1348 : decode cL_law 1348 = .ok (.ifCond .eq 7, 3) := by decide +kernel
theorem dL_law_1351 : decode cL_law 1351 = .ok (.lconst 1, 1) := by decide +kernel
theorem dL_law_1352 : decode cL_law 1352 = .ok (.goto 4, 3) := by decide +kernel
theorem dL_law_1355 : decode cL_law 1355 = .ok (.lconst 0, 1) := by decide +kernel
theorem dL_law_1356 : decode cL_law 1356 = .ok (.lcmp, 1) := by decide +kernel
theorem dL_law_1357 : decode cL_law 1357 = .ok (.ifCond .eq 5, 3) := by decide +kernel
theorem dL_law_1360 : decode cL_law 1360 = .ok (.iconst 0, 1) := by decide +kernel
theorem dL_law_1361 : decode cL_law 1361 = .ok (.ireturn, 1) := by decide +kernel
theorem dL_law_1362 : decode cL_law 1362 = .ok (.goto 147, 3) := by decide +kernel
theorem dL_law_1365 : decode cL_law 1365 = .ok (.aload_n 1, 1) := by decide +kernel
theorem dL_law_1366 : decode cL_law 1366 = .ok (.aload_n 0, 1) := by decide +kernel
theorem dL_law_1367 : decode cL_law 1367 = .ok (.iload 4, 2) := by decide +kernel
theorem dL_law_1369 : decode cL_law 1369 = .ok (.iconst 1, 1) := by decide +kernel
theorem dL_law_1370 : decode cL_law 1370 = .ok (.iadd, 1) := by decide +kernel
theorem dL_law_1371 : decode cL_law 1371 = .ok (.iaload, 1) := by decide +kernel
theorem dL_law_1372 : decode cL_law 1372 = .ok (.aload_n 0, 1) := by decide +kernel
theorem dL_law_1373 : decode cL_law 1373 = .ok (.iload 4, 2) := by decide +kernel
theorem dL_law_1375 : decode cL_law 1375 = .ok (.iconst 2, 1) := by decide +kernel
theorem dL_law_1376 : decode cL_law 1376 = .ok (.iadd, 1) := by decide +kernel
theorem dL_law_1377 : decode cL_law 1377 = .ok (.iaload, 1) := by decide +kernel
theorem dL_law_1378 : decode cL_law 1378 = .ok (.aload_n 3, 1) := by decide +kernel
theorem dL_law_1379 : decode cL_law 1379 = .ok (.invokestatic 160, 3) := by decide +kernel
theorem dL_law_1382 : decode cL_law 1382 = .ok (.istore 5, 2) := by decide +kernel
theorem dL_law_1384 : decode cL_law 1384 = .ok (.aload_n 2, 1) := by decide +kernel
theorem dL_law_1385 : decode cL_law 1385 = .ok (.aload_n 0, 1) := by decide +kernel
theorem dL_law_1386 : decode cL_law 1386 = .ok (.iload 4, 2) := by decide +kernel
theorem dL_law_1388 : decode cL_law 1388 = .ok (.iconst 1, 1) := by decide +kernel
theorem dL_law_1389 : decode cL_law 1389 = .ok (.iadd, 1) := by decide +kernel
theorem dL_law_1390 : decode cL_law 1390 = .ok (.iaload, 1) := by decide +kernel
theorem dL_law_1391 : decode cL_law 1391 = .ok (.aload_n 0, 1) := by decide +kernel
theorem dL_law_1392 : decode cL_law 1392 = .ok (.iload 4, 2) := by decide +kernel
theorem dL_law_1394 : decode cL_law 1394 = .ok (.iconst 2, 1) := by decide +kernel
theorem dL_law_1395 : decode cL_law 1395 = .ok (.iadd, 1) := by decide +kernel
theorem dL_law_1396 : decode cL_law 1396 = .ok (.iaload, 1) := by decide +kernel
theorem dL_law_1397 : decode cL_law 1397 = .ok (.invokevirtual 162, 3) := by decide +kernel
theorem dL_law_1400 : decode cL_law 1400 = .ok (.istore 6, 2) := by decide +kernel
theorem dL_law_1402 : decode cL_law 1402 = .ok (.aload_n 2, 1) := by decide +kernel
theorem dL_law_1403 : decode cL_law 1403 = .ok (.invokevirtual 89, 3) := by decide +kernel
theorem dL_law_1406 : decode cL_law 1406 = .ok (.iload 5, 2) := by decide +kernel
theorem dL_law_1408 : decode cL_law 1408 = .ok (.if_icmp .eq 5, 3) := by decide +kernel
theorem dL_law_1411 : decode cL_law 1411 = .ok (.iconst 0, 1) := by decide +kernel
theorem dL_law_1412 : decode cL_law 1412 = .ok (.ireturn, 1) := by decide +kernel
theorem dL_law_1413 : decode cL_law 1413 = .ok (.iload 5, 2) := by decide +kernel
theorem dL_law_1415 : decode cL_law 1415 = .ok (.ifCond .ne 15, 3) := by decide +kernel
theorem dL_law_1418 : decode cL_law 1418 = .ok (.aload_n 3, 1) := by decide +kernel
theorem dL_law_1419 : decode cL_law 1419 = .ok (.iconst 0, 1) := by decide +kernel
theorem dL_law_1420 : decode cL_law 1420 = .ok (.laload, 1) := by decide +kernel
theorem dL_law_1421 : decode cL_law 1421 = .ok (.iload 6, 2) := by decide +kernel
theorem dL_law_1423 : decode cL_law 1423 = .ok (.i2l, 1) := by decide +kernel
theorem dL_law_1424 : decode cL_law 1424 = .ok (.lcmp, 1) := by decide +kernel
theorem dL_law_1425 : decode cL_law 1425 = .ok (.ifCond .eq 5, 3) := by decide +kernel
theorem dL_law_1428 : decode cL_law 1428 = .ok (.iconst 0, 1) := by decide +kernel
theorem dL_law_1429 : decode cL_law 1429 = .ok (.ireturn, 1) := by decide +kernel
theorem dL_law_1430 : decode cL_law 1430 = .ok (.goto 79, 3) := by decide +kernel
theorem dL_law_1433 : decode cL_law 1433 = .ok (.aload_n 1, 1) := by decide +kernel
theorem dL_law_1434 : decode cL_law 1434 = .ok (.aload_n 0, 1) := by decide +kernel
theorem dL_law_1435 : decode cL_law 1435 = .ok (.iload 4, 2) := by decide +kernel
theorem dL_law_1437 : decode cL_law 1437 = .ok (.iconst 1, 1) := by decide +kernel
theorem dL_law_1438 : decode cL_law 1438 = .ok (.iadd, 1) := by decide +kernel
theorem dL_law_1439 : decode cL_law 1439 = .ok (.iaload, 1) := by decide +kernel
theorem dL_law_1440 : decode cL_law 1440 = .ok (.invokevirtual 163, 3) := by decide +kernel
theorem dL_law_1443 : decode cL_law 1443 = .ok (.aload_n 2, 1) := by decide +kernel
theorem dL_law_1444 : decode cL_law 1444 = .ok (.aload_n 0, 1) := by decide +kernel
theorem dL_law_1445 : decode cL_law 1445 = .ok (.iload 4, 2) := by decide +kernel
theorem dL_law_1447 : decode cL_law 1447 = .ok (.iconst 1, 1) := by decide +kernel
theorem dL_law_1448 : decode cL_law 1448 = .ok (.iadd, 1) := by decide +kernel
theorem dL_law_1449 : decode cL_law 1449 = .ok (.iaload, 1) := by decide +kernel
theorem dL_law_1450 : decode cL_law 1450 = .ok (.invokevirtual 166, 3) := by decide +kernel
theorem dL_law_1453 : decode cL_law 1453 = .ok (.if_icmp .eq 56, 3) := by decide +kernel
theorem dL_law_1456 : decode cL_law 1456 = .ok (.iconst 0, 1) := by decide +kernel
theorem dL_law_1457 : decode cL_law 1457 = .ok (.ireturn, 1) := by decide +kernel
theorem dL_law_1458 : decode cL_law 1458 = .ok (.aload_n 1, 1) := by decide +kernel
theorem dL_law_1459 : decode cL_law 1459 = .ok (.invokevirtual 167, 3) := by decide +kernel
theorem dL_law_1462 : decode cL_law 1462 = .ok (.aload_n 2, 1) := by decide +kernel
theorem dL_law_1463 : decode cL_law 1463 = .ok (.invokevirtual 170, 3) := by decide +kernel
theorem dL_law_1466 : decode cL_law 1466 = .ok (.if_icmp .eq 43, 3) := by decide +kernel
theorem dL_law_1469 : decode cL_law 1469 = .ok (.iconst 0, 1) := by decide +kernel
theorem dL_law_1470 : decode cL_law 1470 = .ok (.ireturn, 1) := by decide +kernel
theorem dL_law_1471 : decode cL_law 1471 = .ok (.aload_n 1, 1) := by decide +kernel
theorem dL_law_1472 : decode cL_law 1472 = .ok (.invokevirtual 171, 3) := by decide +kernel
theorem dL_law_1475 : decode cL_law 1475 = .ok (.aload_n 2, 1) := by decide +kernel
theorem dL_law_1476 : decode cL_law 1476 = .ok (.invokevirtual 174, 3) := by decide +kernel
theorem dL_law_1479 : decode cL_law 1479 = .ok (.if_icmp .eq 30, 3) := by decide +kernel
theorem dL_law_1482 : decode cL_law 1482 = .ok (.iconst 0, 1) := by decide +kernel
theorem dL_law_1483 : decode cL_law 1483 = .ok (.ireturn, 1) := by decide +kernel
theorem dL_law_1484 : decode cL_law 1484 = .ok (.aload_n 1, 1) := by decide +kernel
theorem dL_law_1485 : decode cL_law 1485 = .ok (.aload_n 0, 1) := by decide +kernel
theorem dL_law_1486 : decode cL_law 1486 = .ok (.iload 4, 2) := by decide +kernel
theorem dL_law_1488 : decode cL_law 1488 = .ok (.iconst 1, 1) := by decide +kernel
theorem dL_law_1489 : decode cL_law 1489 = .ok (.iadd, 1) := by decide +kernel
theorem dL_law_1490 : decode cL_law 1490 = .ok (.iaload, 1) := by decide +kernel
theorem dL_law_1491 : decode cL_law 1491 = .ok (.invokevirtual 175, 3) := by decide +kernel
theorem dL_law_1494 : decode cL_law 1494 = .ok (.aload_n 2, 1) := by decide +kernel
theorem dL_law_1495 : decode cL_law 1495 = .ok (.aload_n 0, 1) := by decide +kernel
theorem dL_law_1496 : decode cL_law 1496 = .ok (.iload 4, 2) := by decide +kernel
theorem dL_law_1498 : decode cL_law 1498 = .ok (.iconst 1, 1) := by decide +kernel
theorem dL_law_1499 : decode cL_law 1499 = .ok (.iadd, 1) := by decide +kernel
theorem dL_law_1500 : decode cL_law 1500 = .ok (.iaload, 1) := by decide +kernel
theorem dL_law_1501 : decode cL_law 1501 = .ok (.invokevirtual 178, 3) := by decide +kernel
theorem dL_law_1504 : decode cL_law 1504 = .ok (.if_icmp .eq 5, 3) := by decide +kernel
theorem dL_law_1507 : decode cL_law 1507 = .ok (.iconst 0, 1) := by decide +kernel
theorem dL_law_1508 : decode cL_law 1508 = .ok (.ireturn, 1) := by decide +kernel
theorem dL_law_1509 : decode cL_law 1509 = .ok (.iinc 4 5, 3) := by decide +kernel
theorem dL_law_1512 : decode cL_law 1512 = .ok (.goto (-1489), 3) := by decide +kernel
theorem dL_law_1515 : decode cL_law 1515 = .ok (.iconst 1, 1) := by decide +kernel
theorem dL_law_1516 : decode cL_law 1516 = .ok (.ireturn, 1) := by decide +kernel
end
section
/-! THE MINI-MACHINE: behind the constructors every reference is a constant of the structure; what changes are ints alone. -/
abbrev mv_V : Type := Int32 ⊕ ((Nat × Nat) ⊕ Int32)
abbrev mv_I (x : Int32) : mv_V := Sum.inl x
abbrev mv_R (g j : Nat) : mv_V := Sum.inr (Sum.inl (g, j))
abbrev mv_J (x : Int32) : mv_V := Sum.inr (Sum.inr x)
abbrev mv_M : Type := Nat → Nat → Nat → Int32
def mv_cp (M : mv_M) (g j : Nat) (f : Nat → Int32) : mv_M := fun a b => if a = g ∧ b = j then f else M a b
abbrev mv_up (M : mv_M) (g j o : Nat) (x : Int32) : mv_M := mv_cp M g j (upd (M g j) o x)
abbrev mv_L : Type := List (Option mv_V)
abbrev mv_S : Type := Nat × mv_L × List mv_V × mv_M
abbrev mv_O : Type := Option mv_V ⊕ Nat
abbrev mv_A : Type := Option ((Option Prop × mv_S) ⊕ (List (Prop × mv_S) ⊕ ((Nat × List mv_V × List mv_V × Nat) ⊕ ((Prop × Option mv_V) ⊕ Nat))))
abbrev mv_F : Type := mv_L → List mv_V → mv_M → mv_A
abbrev mv_go (s : mv_S) : mv_A := some (Sum.inl (none, s))
abbrev mv_ck (P : Prop) (s : mv_S) : mv_A := some (Sum.inl (some P, s))
abbrev mv_br (bs : List (Prop × mv_S)) : mv_A := some (Sum.inr (Sum.inl bs))
abbrev mv_ca (k : Nat) (as rest : List mv_V) (nx : Nat) : mv_A := some (Sum.inr (Sum.inr (Sum.inl (k, as, rest, nx))))
abbrev mv_re (P : Prop) (v : Option mv_V) : mv_A := some (Sum.inr (Sum.inr (Sum.inr (Sum.inl (P, v)))))
abbrev mv_th (E : Nat) : mv_A := some (Sum.inr (Sum.inr (Sum.inr (Sum.inr E))))
/-- the shape of a group of cells: an object (its class, its fields: a reference to a group, or an int), a row of ints (0), booleans (1), longs (2), a row of rows; how many cells the group has -/
abbrev mv_Sh : Type := (Nat × List (Option Nat)) ⊕ ((Nat × Nat) ⊕ (Nat × Nat))

def mv_shps : List (mv_Sh × Nat) := [(Sum.inl (3, [some 1, some 2, some 3, none, some 4, some 5, none]), 1), (Sum.inl (0, [some 6, some 7, some 8, none, none]), 1), (Sum.inl (2, [some 9, some 10, some 11, some 12, some 13, none, some 14, some 15, some 16, none]), 1), (Sum.inl (1, [none, none, some 17, none]), 1), (Sum.inr (Sum.inl (0, 20)), 1), (Sum.inr (Sum.inr (18, 20)), 1), (Sum.inr (Sum.inr (19, 20)), 1), (Sum.inr (Sum.inr (20, 20)), 1), (Sum.inr (Sum.inl (0, 20)), 1), (Sum.inr (Sum.inl (0, 300)), 1), (Sum.inr (Sum.inl (0, 300)), 1), (Sum.inr (Sum.inl (1, 300)), 1), (Sum.inr (Sum.inl (0, 1800)), 1), (Sum.inr (Sum.inl (0, 300)), 1), (Sum.inr (Sum.inr (21, 6)), 1), (Sum.inr (Sum.inl (0, 20)), 1), (Sum.inr (Sum.inl (0, 600)), 1), (Sum.inr (Sum.inl (0, 20)), 1), (Sum.inr (Sum.inl (0, 6)), 20), (Sum.inr (Sum.inl (0, 7)), 20), (Sum.inr (Sum.inl (0, 18)), 20), (Sum.inr (Sum.inl (0, 20)), 6), (Sum.inl (4, [none, none, some 23, some 24, some 25, some 26, none, some 27, some 28, some 29, none, none, none, some 30, some 31, some 32, some 33, some 34, some 35, none, none, some 36, none, none, none, some 37, some 38, some 39, some 40, some 41, none, none, none]), 1), (Sum.inr (Sum.inl (0, 140)), 1), (Sum.inr (Sum.inl (0, 20)), 1), (Sum.inr (Sum.inl (0, 360)), 1), (Sum.inr (Sum.inl (0, 20)), 1), (Sum.inr (Sum.inl (0, 21)), 1), (Sum.inr (Sum.inl (0, 21)), 1), (Sum.inr (Sum.inl (0, 21)), 1), (Sum.inr (Sum.inl (0, 300)), 1), (Sum.inr (Sum.inl (0, 300)), 1), (Sum.inr (Sum.inl (0, 300)), 1), (Sum.inr (Sum.inl (1, 300)), 1), (Sum.inr (Sum.inl (0, 300)), 1), (Sum.inr (Sum.inl (0, 1800)), 1), (Sum.inr (Sum.inl (0, 600)), 1), (Sum.inr (Sum.inl (0, 20)), 1), (Sum.inr (Sum.inl (0, 21)), 1), (Sum.inr (Sum.inl (1, 21)), 1), (Sum.inr (Sum.inl (0, 21)), 1), (Sum.inr (Sum.inl (0, 126)), 1), (Sum.inr (Sum.inl (2, 1)), 1)]
-- 0 CC, 1 D, 2 L, 3 F, 4 chain, 5 injecting, 6 props, 7 deps, 8 depCounts, 9 comps, 10 places, 11 living, 12 injections, 13 injectionCounts, 14 kept, 15 completedOf, 16 events, 17 fchain, 18 rInj, 19 rProps, 20 rDeps, 21 rKept, 22 MO, 23 mprops, 24 mdepMany, 25 mdeps, 26 mcompleted, 27 mframe, 28 mframeDepend, 29 mframeLeft, 30 minstOf, 31 minstAs, 32 minstScope, 33 mliving, 34 minjMany, 35 minj, 36 mevent, 37 mchain, 38 mframeAs, 39 mawait, 40 mframeEvery, 41 mframeInj, 42 out
def mv_shp (g : Nat) : Option (mv_Sh × Nat) := mv_shps[g]?
def mi_const (nx : Nat) (v : Int32) : mv_F := fun lv st M => mv_go (nx, lv, Sum.inl v :: st, M)
def mi_lconst (nx : Nat) (v : Int32) : mv_F := fun lv st M => mv_go (nx, lv, Sum.inr (Sum.inr v) :: st, M)
def mi_iload (nx i : Nat) : mv_F := fun lv st M => match lv[i]? with
  | some (some (Sum.inl x)) => mv_go (nx, lv, Sum.inl x :: st, M)
  | _ => none
def mi_aload (nx i : Nat) : mv_F := fun lv st M => match lv[i]? with
  | some (some (Sum.inr (Sum.inl r))) => mv_go (nx, lv, Sum.inr (Sum.inl r) :: st, M)
  | _ => none
def mi_istore (nx i : Nat) : mv_F := fun lv st M => match st, lv[i]? with
  | Sum.inl x :: st, some _ => mv_go (nx, lv.set i (some (Sum.inl x)), st, M)
  | _, _ => none
def mi_astore (nx i : Nat) : mv_F := fun lv st M => match st, lv[i]? with
  | Sum.inr (Sum.inl r) :: st, some _ => mv_go (nx, lv.set i (some (Sum.inr (Sum.inl r))), st, M)
  | _, _ => none
def mi_iinc (nx i : Nat) (v : Int32) : mv_F := fun lv st M => match lv[i]? with
  | some (some (Sum.inl x)) => mv_go (nx, lv.set i (some (Sum.inl (x + v))), st, M)
  | _ => none
def mi_bin (nx : Nat) (f : Int32 → Int32 → Int32) : mv_F := fun lv st M => match st with
  | Sum.inl y :: Sum.inl x :: st => mv_go (nx, lv, Sum.inl (f x y) :: st, M)
  | _ => none
def mi_neg (nx : Nat) : mv_F := fun lv st M => match st with
  | Sum.inl x :: st => mv_go (nx, lv, Sum.inl (-x) :: st, M)
  | _ => none
def mi_i2l (nx : Nat) : mv_F := fun lv st M => match st with
  | Sum.inl x :: st => mv_go (nx, lv, Sum.inr (Sum.inr x) :: st, M)
  | _ => none
def mi_lcmp (nx : Nat) : mv_F := fun lv st M => match st with
  | Sum.inr (Sum.inr y) :: Sum.inr (Sum.inr x) :: st => mv_go (nx, lv, Sum.inl (lg_cmp x.toInt64 y.toInt64) :: st, M)
  | _ => none
def mi_dup (nx : Nat) : mv_F := fun lv st M => match st with
  | Sum.inl x :: st => mv_go (nx, lv, Sum.inl x :: Sum.inl x :: st, M)
  | Sum.inr (Sum.inl r) :: st => mv_go (nx, lv, Sum.inr (Sum.inl r) :: Sum.inr (Sum.inl r) :: st, M)
  | _ => none
def mi_dup2 (nx : Nat) : mv_F := fun lv st M => match st with
  | Sum.inl x :: Sum.inr (Sum.inl r) :: st => mv_go (nx, lv, Sum.inl x :: Sum.inr (Sum.inl r) :: Sum.inl x :: Sum.inr (Sum.inl r) :: st, M)
  | _ => none
def mi_pop (nx : Nat) : mv_F := fun lv st M => match st with
  | Sum.inl _ :: st => mv_go (nx, lv, st, M)
  | _ => none
def mi_if (nx tg : Nat) (P Q : Int32 → Prop) : mv_F := fun lv st M => match st with
  | Sum.inl x :: st => mv_br [(P x, (tg, lv, st, M)), (Q x, (nx, lv, st, M))]
  | _ => none
def mi_icmp (nx tg : Nat) (P Q : Int32 → Int32 → Prop) : mv_F := fun lv st M => match st with
  | Sum.inl y :: Sum.inl x :: st => mv_br [(P x y, (tg, lv, st, M)), (Q x y, (nx, lv, st, M))]
  | _ => none
def mi_goto (tg : Nat) : mv_F := fun lv st M => mv_go (tg, lv, st, M)
def mv_sw (x : Int32) (ts : List (Int32 × Nat)) (lv : mv_L) (st : List mv_V) (M : mv_M) : List (Prop × mv_S) := ts.map (fun t => (x = t.1, (t.2, lv, st, M)))
/-- tableswitch from 0 on: the places, and the last -/
def mi_tsw (ts : List (Int32 × Nat)) (hi : Int32) (d : Nat) : mv_F := fun lv st M => match st with
  | Sum.inl x :: st => mv_br ((x < 0 ∨ hi < x, (d, lv, st, M)) :: mv_sw x ts lv st M)
  | _ => none
def mi_getf (nx ci k : Nat) : mv_F := fun lv st M => match st with
  | Sum.inr (Sum.inl (g, 0)) :: st => match mv_shp g with
    | some (Sum.inl (c, fs), _) => match Nat.beq c ci with
      | true => match fs[k]? with
        | some (some r) => mv_go (nx, lv, Sum.inr (Sum.inl (r, 0)) :: st, M)
        | some none => mv_go (nx, lv, Sum.inl (M g 0 k) :: st, M)
        | none => none
      | false => none
    | _ => none
  | _ => none
def mi_putf (nx ci k : Nat) : mv_F := fun lv st M => match st with
  | Sum.inl x :: Sum.inr (Sum.inl (g, 0)) :: st => match mv_shp g with
    | some (Sum.inl (c, fs), _) => match Nat.beq c ci with
      | true => match fs[k]? with
        | some none => mv_go (nx, lv, st, mv_up M g 0 k x)
        | _ => none
      | false => none
    | _ => none
  | _ => none
/-- the rows that are read alone: two static ones and the script; the length lies in M 60 -/
def mv_isX (g : Nat) : Bool := Nat.ble 50 g && Nat.ble g 52
def mv_xl (M : mv_M) (g : Nat) : Nat := (M 60 g 0).toNatClampNeg
def mi_iald (nx : Nat) : mv_F := fun lv st M => match st with
  | Sum.inl i :: Sum.inr (Sum.inl (g, j)) :: st => match mv_shp g with
    | some (Sum.inr (Sum.inl (0, n)), c) => mv_ck (vp_in i n ∧ j < c) (nx, lv, Sum.inl (M g j i.toNatClampNeg) :: st, M)
    | none => match mv_isX g with
      | true => mv_ck (vp_in i (mv_xl M g) ∧ j = 0) (nx, lv, Sum.inl (M g 0 i.toNatClampNeg) :: st, M)
      | false => none
    | _ => none
  | _ => none
def mi_zald (nx : Nat) : mv_F := fun lv st M => match st with
  | Sum.inl i :: Sum.inr (Sum.inl (g, j)) :: st => match mv_shp g with
    | some (Sum.inr (Sum.inl (1, n)), c) => mv_ck (vp_in i n ∧ j < c) (nx, lv, Sum.inl (M g j i.toNatClampNeg) :: st, M)
    | _ => none
  | _ => none
def mi_lald (nx : Nat) : mv_F := fun lv st M => match st with
  | Sum.inl i :: Sum.inr (Sum.inl (g, j)) :: st => match mv_shp g with
    | some (Sum.inr (Sum.inl (2, n)), c) => mv_ck (vp_in i n ∧ j < c) (nx, lv, Sum.inr (Sum.inr (M g j i.toNatClampNeg)) :: st, M)
    | _ => none
  | _ => none
def mi_aald (nx : Nat) : mv_F := fun lv st M => match st with
  | Sum.inl i :: Sum.inr (Sum.inl (g, j)) :: st => match mv_shp g with
    | some (Sum.inr (Sum.inr (r, n)), c) => mv_ck (vp_in i n ∧ j < c) (nx, lv, Sum.inr (Sum.inl (r, i.toNatClampNeg)) :: st, M)
    | _ => none
  | _ => none
def mi_iast (nx : Nat) : mv_F := fun lv st M => match st with
  | Sum.inl x :: Sum.inl i :: Sum.inr (Sum.inl (g, j)) :: st => match mv_shp g with
    | some (Sum.inr (Sum.inl (0, n)), c) => mv_ck (vp_in i n ∧ j < c) (nx, lv, st, mv_up M g j i.toNatClampNeg x)
    | _ => none
  | _ => none
def mi_zast (nx : Nat) : mv_F := fun lv st M => match st with
  | Sum.inl x :: Sum.inl i :: Sum.inr (Sum.inl (g, j)) :: st => match mv_shp g with
    | some (Sum.inr (Sum.inl (1, n)), c) => mv_ck ((vp_in i n ∧ j < c) ∧ (x = 0 ∨ x = 1)) (nx, lv, st, mv_up M g j i.toNatClampNeg x)
    | _ => none
  | _ => none
def mi_last (nx : Nat) : mv_F := fun lv st M => match st with
  | Sum.inr (Sum.inr x) :: Sum.inl i :: Sum.inr (Sum.inl (g, j)) :: st => match mv_shp g with
    | some (Sum.inr (Sum.inl (2, n)), c) => mv_ck (vp_in i n ∧ j < c) (nx, lv, st, mv_up M g j i.toNatClampNeg x)
    | _ => none
  | _ => none
def mi_alen (nx : Nat) : mv_F := fun lv st M => match st with
  | Sum.inr (Sum.inl (g, j)) :: st => match mv_shp g with
    | some (Sum.inr (Sum.inl (_, n)), c) => mv_ck (j < c) (nx, lv, Sum.inl (Int32.ofNat n) :: st, M)
    | none => match mv_isX g with
      | true => mv_ck (j = 0) (nx, lv, Sum.inl (Int32.ofNat (mv_xl M g)) :: st, M)
      | false => none
    | _ => none
  | _ => none
def mi_gets (nx g : Nat) : mv_F := fun lv st M => mv_go (nx, lv, Sum.inr (Sum.inl (g, 0)) :: st, M)
def mi_copy (nx : Nat) : mv_F := fun lv st M => match st with
  | Sum.inl n :: Sum.inl dp :: Sum.inr (Sum.inl (g, j)) :: Sum.inl sp :: Sum.inr (Sum.inl (g0, j0)) :: st => match mv_shp g, mv_shp g0, Nat.ble st.length 4 with
    | some (Sum.inr (Sum.inl (0, n1)), c), some (Sum.inr (Sum.inl (0, n0)), c0), true => mv_ck ((¬ sp < 0 ∧ ¬ dp < 0 ∧ ¬ n < 0) ∧ (sp.toNatClampNeg + n.toNatClampNeg ≤ n0 ∧ dp.toNatClampNeg + n.toNatClampNeg ≤ n1) ∧ j < c ∧ j0 < c0) (nx, lv, st, mv_cp M g j (va_cpy (M g0 j0) (M g j) sp.toNatClampNeg dp.toNatClampNeg n.toNatClampNeg))
    | _, _, _ => none
  | _ => none
/-- n values off the stack, the deepest first -/
def mv_pop : Nat → List mv_V → List mv_V → Option (List mv_V × List mv_V)
  | 0, st, acc => some (acc, st)
  | n + 1, v :: st, acc => mv_pop n st (v :: acc)
  | _ + 1, [], _ => none
/-- a call of k by n values; the receiver, where there is one, is the object g of class ci -/
def mi_callv (nx k n ci : Nat) : mv_F := fun lv st M => match mv_pop n st [] with
  | some (Sum.inr (Sum.inl (g, 0)) :: as, rest) => match mv_shp g with
    | some (Sum.inl (c, _), _) => match Nat.beq c ci && Nat.ble rest.length 4 with
      | true => mv_ca k (Sum.inr (Sum.inl (g, 0)) :: as) rest nx
      | false => none
    | _ => none
  | _ => none
def mi_calls (nx k n : Nat) : mv_F := fun lv st M => match mv_pop n st [] with
  | some (as, rest) => match Nat.ble rest.length 4 with
    | true => mv_ca k as rest nx
    | false => none
  | _ => none
def mi_iret : mv_F := fun lv st M => match st with
  | [Sum.inl x] => mv_re True (some (Sum.inl x))
  | _ => none
def mi_zret : mv_F := fun lv st M => match st with
  | [Sum.inl x] => mv_re (x = 0 ∨ x = 1) (some (Sum.inl x))
  | _ => none
def mi_vret : mv_F := fun lv st M => match st with
  | [] => mv_re True none
  | _ => none
def mi_throw (E : Nat) : mv_F := fun lv st M => match Nat.ble st.length 4 with
  | true => mv_th E
  | false => none

abbrev mb_iadd : Int32 → Int32 → Int32 := fun a b => a + b
abbrev mb_isub : Int32 → Int32 → Int32 := fun a b => a - b
abbrev mb_imul : Int32 → Int32 → Int32 := fun a b => a * b
abbrev mb_iand : Int32 → Int32 → Int32 := fun a b => a &&& b
abbrev mb_ior : Int32 → Int32 → Int32 := fun a b => a ||| b
abbrev mb_ixor : Int32 → Int32 → Int32 := fun a b => a ^^^ b
abbrev mb_ishl : Int32 → Int32 → Int32 := fun a b => a <<< (b &&& 31)
abbrev mb_ishr : Int32 → Int32 → Int32 := fun a b => a >>> (b &&& 31)
abbrev mb_eq : Int32 → Prop := fun x => x = 0
abbrev mb_neq : Int32 → Prop := fun x => ¬ x = 0
abbrev mb_ne : Int32 → Prop := fun x => ¬ x = 0
abbrev mb_nne : Int32 → Prop := fun x => x = 0
abbrev mb_lt : Int32 → Prop := fun x => x < 0
abbrev mb_nlt : Int32 → Prop := fun x => ¬ x < 0
abbrev mb_ge : Int32 → Prop := fun x => 0 ≤ x
abbrev mb_nge : Int32 → Prop := fun x => ¬ 0 ≤ x
abbrev mb_gt : Int32 → Prop := fun x => 0 < x
abbrev mb_ngt : Int32 → Prop := fun x => ¬ 0 < x
abbrev mb_le : Int32 → Prop := fun x => x ≤ 0
abbrev mb_nle : Int32 → Prop := fun x => ¬ x ≤ 0
abbrev mc_eq : Int32 → Int32 → Prop := fun x y => x = y
abbrev mc_neq : Int32 → Int32 → Prop := fun x y => ¬ x = y
abbrev mc_ne : Int32 → Int32 → Prop := fun x y => ¬ x = y
abbrev mc_nne : Int32 → Int32 → Prop := fun x y => x = y
abbrev mc_lt : Int32 → Int32 → Prop := fun x y => x < y
abbrev mc_nlt : Int32 → Int32 → Prop := fun x y => ¬ x < y
abbrev mc_ge : Int32 → Int32 → Prop := fun x y => y ≤ x
abbrev mc_nge : Int32 → Int32 → Prop := fun x y => ¬ y ≤ x
abbrev mc_gt : Int32 → Int32 → Prop := fun x y => y < x
abbrev mc_ngt : Int32 → Int32 → Prop := fun x y => ¬ y < x
abbrev mc_le : Int32 → Int32 → Prop := fun x y => x ≤ y
abbrev mc_nle : Int32 → Int32 → Prop := fun x y => ¬ x ≤ y
abbrev kX0_append : Nat := 0
abbrev kX0_appendDependency : Nat := 1
abbrev kX0_hasDependency : Nat := 2
abbrev kX0_partOf : Nat := 3
abbrev kX0_turnProfile : Nat := 4
abbrev kX0_isActive : Nat := 5
abbrev kX0_isStarted : Nat := 6
abbrev kX0_provides : Nat := 7
abbrev kX0_candidateMask : Nat := 8
abbrev kX0_candidatesFor : Nat := 9
abbrev kX0_choiceAmong : Nat := 10
abbrev kX0_singleIn : Nat := 11
abbrev kX0_primaryMask : Nat := 12
abbrev kX0_directNeeds : Nat := 13
abbrev kX0_needsOfDependency : Nat := 14
abbrev kX0_allNeeds : Nat := 15
abbrev kX1_remember : Nat := 16
abbrev kX2_append : Nat := 17
abbrev kX2_hasInjection : Nat := 18
abbrev kX2_destroyAllIn : Nat := 19
abbrev kX2_destroyPrototypesFrom : Nat := 20
abbrev kX2_destroyFrom : Nat := 21
abbrev kX2_destroy : Nat := 22
abbrev kX2_recordEvent : Nat := 23
abbrev kX3_add : Nat := 24
abbrev kX3_set : Nat := 25
abbrev kX3_property : Nat := 26
abbrev kX3_depend : Nat := 27
abbrev kX3_clear : Nat := 28
abbrev kX3_dependency : Nat := 29
abbrev kX3_profile : Nat := 30
abbrev kX3_components : Nat := 31
abbrev kX3_candidates : Nat := 32
abbrev kX3_chosen : Nat := 33
abbrev kX3_problem : Nat := 34
abbrev kX3_needs : Nat := 35
abbrev kX3_resolve : Nat := 36
abbrev kX3_provide : Nat := 37
abbrev kX3_start : Nat := 38
abbrev kX3_begin : Nat := 39
abbrev kX3_end : Nat := 40
abbrev kX3_close : Nat := 41
abbrev kX3_instances : Nat := 42
abbrev kX3_componentOf : Nat := 43
abbrev kX3_isAlive : Nat := 44
abbrev kX3_injected : Nat := 45
abbrev kX3_event : Nat := 46
abbrev kX3_failureKind : Nat := 47
abbrev kX3_failureDetail : Nat := 48
abbrev kX3_failureChain : Nat := 49
abbrev kX3_isBetween : Nat := 50
abbrev kX3_isPropertyValue : Nat := 51
abbrev kX3_requireComponent : Nat := 52
abbrev kX3_requireInstance : Nat := 53
abbrev kX3_requireProperty : Nat := 54
abbrev kX3_requireTypeAndQualifier : Nat := 55
abbrev kX3_tryConstruction : Nat := 56
abbrev kX3_tryDependency : Nat := 57
abbrev kX3_tryEach : Nat := 58
abbrev kX3_requestOrThrow : Nat := 59
abbrev kX3_request : Nat := 60
abbrev kX3_obtain : Nat := 61
abbrev kX3_construct : Nat := 62
abbrev kX3_isUnderConstruction : Nat := 63
abbrev kX3_inject : Nat := 64
abbrev kX3_obtainEach : Nat := 65
abbrev kX3_complete : Nat := 66
abbrev kX3_recordFailure : Nat := 67
abbrev kX3_closeInnermostScope : Nat := 68
abbrev kX3_isIn : Nat := 69
abbrev kX4_thrown : Nat := 70
abbrev kX4_in : Nat := 71
abbrev kX4_isComponent : Nat := 72
abbrev kX4_of : Nat := 73
abbrev kX4_add : Nat := 74
abbrev kX4_isValue : Nat := 75
abbrev kX4_set : Nat := 76
abbrev kX4_property : Nat := 77
abbrev kX4_isAsked : Nat := 78
abbrev kX4_dependAt : Nat := 79
abbrev kX4_depend : Nat := 80
abbrev kX4_clear : Nat := 81
abbrev kX4_dependency : Nat := 82
abbrev kX4_profile : Nat := 83
abbrev kX4_components : Nat := 84
abbrev kX4_isActive : Nat := 85
abbrev kX4_candidatesFor : Nat := 86
abbrev kX4_bits : Nat := 87
abbrev kX4_lowest : Nat := 88
abbrev kX4_choose : Nat := 89
abbrev kX4_candidates : Nat := 90
abbrev kX4_chosen : Nat := 91
abbrev kX4_isInFrames : Nat := 92
abbrev kX4_push : Nat := 93
abbrev kX4_wanted : Nat := 94
abbrev kX4_wouldGoOn : Nat := 95
abbrev kX4_problem : Nat := 96
abbrev kX4_directly : Nat := 97
abbrev kX4_needs : Nat := 98
abbrev kX4_fail : Nat := 99
abbrev kX4_construct : Nat := 100
abbrev kX4_living : Nat := 101
abbrev kX4_obtain : Nat := 102
abbrev kX4_inject : Nat := 103
abbrev kX4_serve : Nat := 104
abbrev kX4_receive : Nat := 105
abbrev kX4_note : Nat := 106
abbrev kX4_complete : Nat := 107
abbrev kX4_goOn : Nat := 108
abbrev kX4_clean : Nat := 109
abbrev kX4_destroy : Nat := 110
abbrev kX4_make : Nat := 111
abbrev kX4_settle : Nat := 112
abbrev kX4_request : Nat := 113
abbrev kX4_resolve : Nat := 114
abbrev kX4_isInstance : Nat := 115
abbrev kX4_isLater : Nat := 116
abbrev kX4_provide : Nat := 117
abbrev kX4_start : Nat := 118
abbrev kX4_begin : Nat := 119
abbrev kX4_endScope : Nat := 120
abbrev kX4_end : Nat := 121
abbrev kX4_close : Nat := 122
abbrev kX4_instances : Nat := 123
abbrev kX4_componentOf : Nat := 124
abbrev kX4_isAlive : Nat := 125
abbrev kX4_injected : Nat := 126
abbrev kX4_event : Nat := 127
abbrev kX4_failureKind : Nat := 128
abbrev kX4_failureDetail : Nat := 129
abbrev kX4_failureChain : Nat := 130
abbrev kL_add : Nat := 131
abbrev kL_set : Nat := 132
abbrev kL_property : Nat := 133
abbrev kL_depend : Nat := 134
abbrev kL_clear : Nat := 135
abbrev kL_dependency : Nat := 136
abbrev kL_profile : Nat := 137
abbrev kL_candidates : Nat := 138
abbrev kL_chosen : Nat := 139
abbrev kL_problem : Nat := 140
abbrev kL_needs : Nat := 141
abbrev kL_resolve : Nat := 142
abbrev kL_provide : Nat := 143
abbrev kL_start : Nat := 144
abbrev kL_begin : Nat := 145
abbrev kL_end : Nat := 146
abbrev kL_componentOf : Nat := 147
abbrev kL_isAlive : Nat := 148
abbrev kL_injected : Nat := 149
abbrev kL_law : Nat := 150
def mt_X0_append : List (Nat × mv_F) := [(0, mi_aload 1 0), (1, mi_getf 4 0 0), (4, mi_aload 5 0), (5, mi_getf 8 0 3), (8, mi_aald 9), (9, mi_astore 10 3), (10, mi_aload 11 3), (11, mi_const 12 0), (12, mi_iload 13 1), (13, mi_iast 14), (14, mi_aload 15 3), (15, mi_const 16 1), (16, mi_iload 17 2), (17, mi_iast 18), (18, mi_aload 19 3), (19, mi_const 20 2), (20, mi_const 21 (-1)), (21, mi_iast 22), (22, mi_aload 23 3), (23, mi_const 24 5), (24, mi_const 25 (-1)), (25, mi_iast 26), (26, mi_aload 27 3), (27, mi_const 29 6), (29, mi_const 30 (-1)), (30, mi_iast 31), (31, mi_aload 32 0), (32, mi_dup 33), (33, mi_getf 36 0 3), (36, mi_const 37 1), (37, mi_bin 38 mb_iadd), (38, mi_putf 41 0 3), (41, mi_aload 42 0), (42, mi_getf 45 0 3), (45, mi_const 46 1), (46, mi_bin 47 mb_isub), (47, mi_iret)]
def mt_X0_appendDependency : List (Nat × mv_F) := [(0, mi_aload 1 0), (1, mi_getf 4 0 2), (4, mi_iload 5 1), (5, mi_iald 6), (6, mi_istore 8 5), (8, mi_iload 10 5), (10, mi_const 11 3), (11, mi_bin 12 mb_imul), (12, mi_istore 14 6), (14, mi_aload 15 0), (15, mi_getf 18 0 1), (18, mi_iload 19 1), (19, mi_aald 20), (20, mi_iload 22 6), (22, mi_const 23 0), (23, mi_bin 24 mb_iadd), (24, mi_iload 25 2), (25, mi_iast 26), (26, mi_aload 27 0), (27, mi_getf 30 0 1), (30, mi_iload 31 1), (31, mi_aald 32), (32, mi_iload 34 6), (34, mi_const 35 1), (35, mi_bin 36 mb_iadd), (36, mi_iload 37 3), (37, mi_iast 38), (38, mi_aload 39 0), (39, mi_getf 42 0 1), (42, mi_iload 43 1), (43, mi_aald 44), (44, mi_iload 46 6), (46, mi_const 47 2), (47, mi_bin 48 mb_iadd), (48, mi_iload 50 4), (50, mi_iast 51), (51, mi_aload 52 0), (52, mi_getf 55 0 2), (55, mi_iload 56 1), (56, mi_iload 58 5), (58, mi_const 59 1), (59, mi_bin 60 mb_iadd), (60, mi_iast 61), (61, mi_iload 63 5), (63, mi_iret)]
def mt_X0_hasDependency : List (Nat × mv_F) := [(0, mi_iload 1 2), (1, mi_if 4 18 mb_lt mb_nlt), (4, mi_iload 5 2), (5, mi_aload 6 0), (6, mi_getf 9 0 2), (9, mi_iload 10 1), (10, mi_iald 11), (11, mi_icmp 14 18 mc_ge mc_nge), (14, mi_const 15 1), (15, mi_goto 19), (18, mi_const 19 0), (19, mi_zret)]
def mt_X0_partOf : List (Nat × mv_F) := [(0, mi_aload 1 0), (1, mi_getf 4 0 1), (4, mi_iload 5 1), (5, mi_aald 6), (6, mi_iload 7 2), (7, mi_const 8 3), (8, mi_bin 9 mb_imul), (9, mi_iload 10 3), (10, mi_bin 11 mb_iadd), (11, mi_iald 12), (12, mi_iret)]
def mt_X0_turnProfile : List (Nat × mv_F) := [(0, mi_const 1 1), (1, mi_iload 2 1), (2, mi_bin 3 mb_ishl), (3, mi_istore 4 3), (4, mi_aload 5 0), (5, mi_iload 6 2), (6, mi_if 9 18 mb_eq mb_neq), (9, mi_aload 10 0), (10, mi_getf 13 0 4), (13, mi_iload 14 3), (14, mi_bin 15 mb_ior), (15, mi_goto 26), (18, mi_aload 19 0), (19, mi_getf 22 0 4), (22, mi_iload 23 3), (23, mi_const 24 (-1)), (24, mi_bin 25 mb_ixor), (25, mi_bin 26 mb_iand), (26, mi_putf 29 0 4), (29, mi_vret)]
def mt_X0_isActive : List (Nat × mv_F) := [(0, mi_aload 1 0), (1, mi_getf 4 0 0), (4, mi_iload 5 1), (5, mi_aald 6), (6, mi_const 7 5), (7, mi_iald 8), (8, mi_istore 9 2), (9, mi_iload 10 2), (10, mi_const 11 (-1)), (11, mi_icmp 14 25 mc_eq mc_neq), (14, mi_aload 15 0), (15, mi_getf 18 0 4), (18, mi_const 19 1), (19, mi_iload 20 2), (20, mi_bin 21 mb_ishl), (21, mi_bin 22 mb_iand), (22, mi_if 25 29 mb_eq mb_neq), (25, mi_const 26 1), (26, mi_goto 30), (29, mi_const 30 0), (30, mi_zret)]
def mt_X0_isStarted : List (Nat × mv_F) := [(0, mi_aload 1 0), (1, mi_iload 2 1), (2, mi_callv 5 kX0_isActive 2 0), (5, mi_if 8 34 mb_eq mb_neq), (8, mi_aload 9 0), (9, mi_getf 12 0 0), (12, mi_iload 13 1), (13, mi_aald 14), (14, mi_const 15 1), (15, mi_iald 16), (16, mi_if 19 34 mb_ne mb_nne), (19, mi_aload 20 0), (20, mi_getf 23 0 0), (23, mi_iload 24 1), (24, mi_aald 25), (25, mi_const 26 4), (26, mi_iald 27), (27, mi_if 30 34 mb_ne mb_nne), (30, mi_const 31 1), (31, mi_goto 35), (34, mi_const 35 0), (35, mi_zret)]
def mt_X0_provides : List (Nat × mv_F) := [(0, mi_aload 1 0), (1, mi_getf 4 0 0), (4, mi_iload 5 1), (5, mi_aald 6), (6, mi_const 7 0), (7, mi_iald 8), (8, mi_const 9 1), (9, mi_iload 10 2), (10, mi_bin 11 mb_ishl), (11, mi_bin 12 mb_iand), (12, mi_if 15 36 mb_eq mb_neq), (15, mi_iload 16 3), (16, mi_const 17 (-1)), (17, mi_icmp 20 32 mc_eq mc_neq), (20, mi_aload 21 0), (21, mi_getf 24 0 0), (24, mi_iload 25 1), (25, mi_aald 26), (26, mi_const 27 2), (27, mi_iald 28), (28, mi_iload 29 3), (29, mi_icmp 32 36 mc_ne mc_nne), (32, mi_const 33 1), (33, mi_goto 37), (36, mi_const 37 0), (37, mi_zret)]
def mt_X0_candidateMask : List (Nat × mv_F) := [(0, mi_const 1 0), (1, mi_istore 2 3), (2, mi_const 3 0), (3, mi_istore 5 4), (5, mi_iload 7 4), (7, mi_aload 8 0), (8, mi_getf 11 0 3), (11, mi_icmp 14 47 mc_ge mc_nge), (14, mi_aload 15 0), (15, mi_iload 17 4), (17, mi_callv 20 kX0_isActive 2 0), (20, mi_if 23 41 mb_eq mb_neq), (23, mi_aload 24 0), (24, mi_iload 26 4), (26, mi_iload 27 1), (27, mi_iload 28 2), (28, mi_callv 31 kX0_provides 4 0), (31, mi_if 34 41 mb_eq mb_neq), (34, mi_iload 35 3), (35, mi_const 36 1), (36, mi_iload 38 4), (38, mi_bin 39 mb_ishl), (39, mi_bin 40 mb_ior), (40, mi_istore 41 3), (41, mi_iinc 44 4 1), (44, mi_goto 5), (47, mi_iload 48 3), (48, mi_iret)]
def mt_X0_candidatesFor : List (Nat × mv_F) := [(0, mi_aload 1 0), (1, mi_aload 2 0), (2, mi_iload 3 1), (3, mi_iload 4 2), (4, mi_const 5 0), (5, mi_callv 8 kX0_partOf 4 0), (8, mi_aload 9 0), (9, mi_iload 10 1), (10, mi_iload 11 2), (11, mi_const 12 1), (12, mi_callv 15 kX0_partOf 4 0), (15, mi_callv 18 kX0_candidateMask 3 0), (18, mi_iret)]
def mt_X0_choiceAmong : List (Nat × mv_F) := [(0, mi_aload 1 0), (1, mi_iload 2 1), (2, mi_callv 5 kX0_singleIn 2 0), (5, mi_istore 6 2), (6, mi_iload 7 2), (7, mi_const 8 (-1)), (8, mi_icmp 11 15 mc_eq mc_neq), (11, mi_iload 12 2), (12, mi_goto 25), (15, mi_aload 16 0), (16, mi_iload 17 1), (17, mi_aload 18 0), (18, mi_callv 21 kX0_primaryMask 1 0), (21, mi_bin 22 mb_iand), (22, mi_callv 25 kX0_singleIn 2 0), (25, mi_iret)]
def mt_X0_singleIn : List (Nat × mv_F) := [(0, mi_const 1 0), (1, mi_istore 2 2), (2, mi_iload 3 2), (3, mi_aload 4 0), (4, mi_getf 7 0 3), (7, mi_icmp 10 25 mc_ge mc_nge), (10, mi_iload 11 1), (11, mi_const 12 1), (12, mi_iload 13 2), (13, mi_bin 14 mb_ishl), (14, mi_icmp 17 19 mc_ne mc_nne), (17, mi_iload 18 2), (18, mi_iret), (19, mi_iinc 22 2 1), (22, mi_goto 2), (25, mi_const 26 (-1)), (26, mi_iret)]
def mt_X0_primaryMask : List (Nat × mv_F) := [(0, mi_const 1 0), (1, mi_istore 2 1), (2, mi_const 3 0), (3, mi_istore 4 2), (4, mi_iload 5 2), (5, mi_aload 6 0), (6, mi_getf 9 0 3), (9, mi_icmp 12 31 mc_ge mc_nge), (12, mi_iload 13 1), (13, mi_aload 14 0), (14, mi_getf 17 0 0), (17, mi_iload 18 2), (18, mi_aald 19), (19, mi_const 20 3), (20, mi_iald 21), (21, mi_iload 22 2), (22, mi_bin 23 mb_ishl), (23, mi_bin 24 mb_ior), (24, mi_istore 25 1), (25, mi_iinc 28 2 1), (28, mi_goto 4), (31, mi_iload 32 1), (32, mi_iret)]
def mt_X0_directNeeds : List (Nat × mv_F) := [(0, mi_const 1 0), (1, mi_istore 2 2), (2, mi_const 3 0), (3, mi_istore 4 3), (4, mi_iload 5 3), (5, mi_aload 6 0), (6, mi_getf 9 0 2), (9, mi_iload 10 1), (10, mi_iald 11), (11, mi_icmp 14 29 mc_ge mc_nge), (14, mi_iload 15 2), (15, mi_aload 16 0), (16, mi_iload 17 1), (17, mi_iload 18 3), (18, mi_callv 21 kX0_needsOfDependency 3 0), (21, mi_bin 22 mb_ior), (22, mi_istore 23 2), (23, mi_iinc 26 3 1), (26, mi_goto 4), (29, mi_iload 30 2), (30, mi_iret)]
def mt_X0_needsOfDependency : List (Nat × mv_F) := [(0, mi_aload 1 0), (1, mi_iload 2 1), (2, mi_iload 3 2), (3, mi_const 4 2), (4, mi_callv 7 kX0_partOf 4 0), (7, mi_istore 8 3), (8, mi_iload 9 3), (9, mi_const 10 3), (10, mi_icmp 13 15 mc_ne mc_nne), (13, mi_const 14 0), (14, mi_iret), (15, mi_aload 16 0), (16, mi_iload 17 1), (17, mi_iload 18 2), (18, mi_callv 21 kX0_candidatesFor 3 0), (21, mi_istore 23 4), (23, mi_iload 24 3), (24, mi_const 25 2), (25, mi_icmp 28 31 mc_ne mc_nne), (28, mi_iload 30 4), (30, mi_iret), (31, mi_aload 32 0), (32, mi_iload 34 4), (34, mi_callv 37 kX0_choiceAmong 2 0), (37, mi_istore 39 5), (39, mi_iload 41 5), (41, mi_const 42 (-1)), (42, mi_icmp 45 49 mc_ne mc_nne), (45, mi_const 46 0), (46, mi_goto 53), (49, mi_const 50 1), (50, mi_iload 52 5), (52, mi_bin 53 mb_ishl), (53, mi_iret)]
def mt_X0_allNeeds : List (Nat × mv_F) := [(0, mi_aload 1 0), (1, mi_iload 2 1), (2, mi_callv 5 kX0_directNeeds 2 0), (5, mi_istore 6 2), (6, mi_const 7 0), (7, mi_istore 8 3), (8, mi_iload 9 3), (9, mi_aload 10 0), (10, mi_getf 13 0 3), (13, mi_icmp 16 70 mc_ge mc_nge), (16, mi_iload 17 2), (17, mi_istore 19 4), (19, mi_const 20 0), (20, mi_istore 22 5), (22, mi_iload 24 5), (24, mi_aload 25 0), (25, mi_getf 28 0 3), (28, mi_icmp 31 56 mc_ge mc_nge), (31, mi_iload 33 4), (33, mi_iload 35 5), (35, mi_calls 38 kX3_isIn 2), (38, mi_if 41 50 mb_eq mb_neq), (41, mi_iload 42 2), (42, mi_aload 43 0), (43, mi_iload 45 5), (45, mi_callv 48 kX0_directNeeds 2 0), (48, mi_bin 49 mb_ior), (49, mi_istore 50 2), (50, mi_iinc 53 5 1), (53, mi_goto 22), (56, mi_iload 57 2), (57, mi_iload 59 4), (59, mi_icmp 62 64 mc_ne mc_nne), (62, mi_iload 63 2), (63, mi_iret), (64, mi_iinc 67 3 1), (67, mi_goto 8), (70, mi_iload 71 2), (71, mi_iret)]
def mt_X1_remember : List (Nat × mv_F) := [(0, mi_aload 1 0), (1, mi_iload 2 1), (2, mi_putf 5 1 0), (5, mi_aload 6 0), (6, mi_iload 7 2), (7, mi_putf 10 1 1), (10, mi_aload 11 3), (11, mi_const 12 0), (12, mi_aload 13 0), (13, mi_getf 16 1 2), (16, mi_const 17 0), (17, mi_iload 19 4), (19, mi_copy 22), (22, mi_aload 23 0), (23, mi_iload 25 4), (25, mi_putf 28 1 3), (28, mi_vret)]
def mt_X2_append : List (Nat × mv_F) := [(0, mi_aload 1 0), (1, mi_getf 4 2 5), (4, mi_istore 6 5), (6, mi_aload 7 0), (7, mi_getf 10 2 0), (10, mi_iload 12 5), (12, mi_iload 13 1), (13, mi_iast 14), (14, mi_aload 15 0), (15, mi_getf 18 2 1), (18, mi_iload 20 5), (20, mi_iload 21 2), (21, mi_iast 22), (22, mi_aload 23 0), (23, mi_getf 26 2 2), (26, mi_iload 28 5), (28, mi_const 29 1), (29, mi_zast 30), (30, mi_aload 31 3), (31, mi_const 32 0), (32, mi_aload 33 0), (33, mi_getf 36 2 3), (36, mi_iload 38 5), (38, mi_const 40 6), (40, mi_bin 41 mb_imul), (41, mi_iload 43 4), (43, mi_copy 46), (46, mi_aload 47 0), (47, mi_getf 50 2 4), (50, mi_iload 52 5), (52, mi_iload 54 4), (54, mi_iast 55), (55, mi_iload 56 2), (56, mi_const 57 (-1)), (57, mi_icmp 60 70 mc_eq mc_neq), (60, mi_aload 61 0), (61, mi_getf 64 2 6), (64, mi_iload 65 2), (65, mi_aald 66), (66, mi_iload 67 1), (67, mi_iload 69 5), (69, mi_iast 70), (70, mi_aload 71 0), (71, mi_getf 74 2 7), (74, mi_iload 75 1), (75, mi_dup2 76), (76, mi_iald 77), (77, mi_const 78 1), (78, mi_bin 79 mb_iadd), (79, mi_iast 80), (80, mi_aload 81 0), (81, mi_dup 82), (82, mi_getf 85 2 5), (85, mi_const 86 1), (86, mi_bin 87 mb_iadd), (87, mi_putf 90 2 5), (90, mi_aload 91 0), (91, mi_const 92 2), (92, mi_iload 94 5), (94, mi_bin 95 mb_imul), (95, mi_callv 98 kX2_recordEvent 2 2), (98, mi_iload 100 5), (100, mi_iret)]
def mt_X2_hasInjection : List (Nat × mv_F) := [(0, mi_iload 1 2), (1, mi_if 4 18 mb_lt mb_nlt), (4, mi_iload 5 2), (5, mi_aload 6 0), (6, mi_getf 9 2 4), (9, mi_iload 10 1), (10, mi_iald 11), (11, mi_icmp 14 18 mc_ge mc_nge), (14, mi_const 15 1), (15, mi_goto 19), (18, mi_const 19 0), (19, mi_zret)]
def mt_X2_destroyAllIn : List (Nat × mv_F) := [(0, mi_aload 1 0), (1, mi_const 2 0), (2, mi_iload 3 1), (3, mi_callv 6 kX2_destroyFrom 3 2), (6, mi_iret)]
def mt_X2_destroyPrototypesFrom : List (Nat × mv_F) := [(0, mi_aload 1 0), (1, mi_iload 2 1), (2, mi_const 3 (-1)), (3, mi_callv 6 kX2_destroyFrom 3 2), (6, mi_pop 7), (7, mi_vret)]
def mt_X2_destroyFrom : List (Nat × mv_F) := [(0, mi_const 1 0), (1, mi_istore 2 3), (2, mi_aload 3 0), (3, mi_getf 6 2 5), (6, mi_const 7 1), (7, mi_bin 8 mb_isub), (8, mi_istore 10 4), (10, mi_iload 12 4), (12, mi_iload 13 1), (13, mi_icmp 16 52 mc_lt mc_nlt), (16, mi_aload 17 0), (17, mi_getf 20 2 2), (20, mi_iload 22 4), (22, mi_zald 23), (23, mi_if 26 46 mb_eq mb_neq), (26, mi_aload 27 0), (27, mi_getf 30 2 1), (30, mi_iload 32 4), (32, mi_iald 33), (33, mi_iload 34 2), (34, mi_icmp 37 46 mc_ne mc_nne), (37, mi_aload 38 0), (38, mi_iload 40 4), (40, mi_callv 43 kX2_destroy 2 2), (43, mi_iinc 46 3 1), (46, mi_iinc 49 4 (-1)), (49, mi_goto 10), (52, mi_iload 53 3), (53, mi_iret)]
def mt_X2_destroy : List (Nat × mv_F) := [(0, mi_aload 1 0), (1, mi_getf 4 2 2), (4, mi_iload 5 1), (5, mi_const 6 0), (6, mi_zast 7), (7, mi_aload 8 0), (8, mi_getf 11 2 1), (11, mi_iload 12 1), (12, mi_iald 13), (13, mi_istore 14 2), (14, mi_iload 15 2), (15, mi_const 16 (-1)), (16, mi_icmp 19 33 mc_eq mc_neq), (19, mi_aload 20 0), (20, mi_getf 23 2 6), (23, mi_iload 24 2), (24, mi_aald 25), (25, mi_aload 26 0), (26, mi_getf 29 2 0), (29, mi_iload 30 1), (30, mi_iald 31), (31, mi_const 32 (-1)), (32, mi_iast 33), (33, mi_aload 34 0), (34, mi_const 35 2), (35, mi_iload 36 1), (36, mi_bin 37 mb_imul), (37, mi_const 38 1), (38, mi_bin 39 mb_iadd), (39, mi_callv 42 kX2_recordEvent 2 2), (42, mi_vret)]
def mt_X2_recordEvent : List (Nat × mv_F) := [(0, mi_aload 1 0), (1, mi_getf 4 2 9), (4, mi_aload 5 0), (5, mi_getf 8 2 8), (8, mi_alen 9), (9, mi_icmp 12 32 mc_ge mc_nge), (12, mi_aload 13 0), (13, mi_getf 16 2 8), (16, mi_aload 17 0), (17, mi_getf 20 2 9), (20, mi_iload 21 1), (21, mi_iast 22), (22, mi_aload 23 0), (23, mi_dup 24), (24, mi_getf 27 2 9), (27, mi_const 28 1), (28, mi_bin 29 mb_iadd), (29, mi_putf 32 2 9), (32, mi_vret)]
def mt_X3_add : List (Nat × mv_F) := [(0, mi_const 1 0), (1, mi_iload 2 1), (2, mi_calls 5 kX3_isPropertyValue 2), (5, mi_if 8 16 mb_eq mb_neq), (8, mi_const 9 1), (9, mi_iload 10 2), (10, mi_calls 13 kX3_isPropertyValue 2), (13, mi_if 16 26 mb_ne mb_nne), (16, mi_throw 0), (26, mi_aload 27 0), (27, mi_getf 30 3 0), (30, mi_getf 33 0 3), (33, mi_const 35 20), (35, mi_icmp 38 48 mc_lt mc_nlt), (38, mi_throw 1), (48, mi_aload 49 0), (49, mi_getf 52 3 0), (52, mi_iload 53 1), (53, mi_iload 54 2), (54, mi_callv 57 kX0_append 3 0), (57, mi_iret)]
def mt_X3_set : List (Nat × mv_F) := [(0, mi_aload 1 0), (1, mi_iload 2 1), (2, mi_callv 5 kX3_requireComponent 2 3), (5, mi_aload 6 0), (6, mi_iload 7 2), (7, mi_callv 10 kX3_requireProperty 2 3), (10, mi_iload 11 2), (11, mi_iload 12 3), (12, mi_calls 15 kX3_isPropertyValue 2), (15, mi_if 18 28 mb_ne mb_nne), (18, mi_throw 0), (28, mi_aload 29 0), (29, mi_getf 32 3 0), (32, mi_getf 35 0 0), (35, mi_iload 36 1), (36, mi_aald 37), (37, mi_iload 38 2), (38, mi_iald 39), (39, mi_istore 41 4), (41, mi_aload 42 0), (42, mi_getf 45 3 0), (45, mi_getf 48 0 0), (48, mi_iload 49 1), (49, mi_aald 50), (50, mi_iload 51 2), (51, mi_iload 52 3), (52, mi_iast 53), (53, mi_iload 55 4), (55, mi_iret)]
def mt_X3_property : List (Nat × mv_F) := [(0, mi_aload 1 0), (1, mi_iload 2 1), (2, mi_callv 5 kX3_requireComponent 2 3), (5, mi_aload 6 0), (6, mi_iload 7 2), (7, mi_callv 10 kX3_requireProperty 2 3), (10, mi_aload 11 0), (11, mi_getf 14 3 0), (14, mi_getf 17 0 0), (17, mi_iload 18 1), (18, mi_aald 19), (19, mi_iload 20 2), (20, mi_iald 21), (21, mi_iret)]
def mt_X3_depend : List (Nat × mv_F) := [(0, mi_aload 1 0), (1, mi_iload 2 1), (2, mi_callv 5 kX3_requireComponent 2 3), (5, mi_aload 6 0), (6, mi_iload 7 2), (7, mi_iload 8 3), (8, mi_callv 11 kX3_requireTypeAndQualifier 3 3), (11, mi_iload 13 4), (13, mi_const 14 0), (14, mi_const 15 3), (15, mi_calls 18 kX3_isBetween 3), (18, mi_if 21 31 mb_ne mb_nne), (21, mi_throw 0), (31, mi_aload 32 0), (32, mi_getf 35 3 0), (35, mi_getf 38 0 2), (38, mi_iload 39 1), (39, mi_iald 40), (40, mi_const 42 6), (42, mi_icmp 45 55 mc_lt mc_nlt), (45, mi_throw 1), (55, mi_aload 56 0), (56, mi_getf 59 3 0), (59, mi_iload 60 1), (60, mi_iload 61 2), (61, mi_iload 62 3), (62, mi_iload 64 4), (64, mi_callv 67 kX0_appendDependency 5 0), (67, mi_iret)]
def mt_X3_clear : List (Nat × mv_F) := [(0, mi_aload 1 0), (1, mi_iload 2 1), (2, mi_callv 5 kX3_requireComponent 2 3), (5, mi_aload 6 0), (6, mi_getf 9 3 0), (9, mi_getf 12 0 2), (12, mi_iload 13 1), (13, mi_iald 14), (14, mi_istore 15 2), (15, mi_aload 16 0), (16, mi_getf 19 3 0), (19, mi_getf 22 0 2), (22, mi_iload 23 1), (23, mi_const 24 0), (24, mi_iast 25), (25, mi_iload 26 2), (26, mi_iret)]
def mt_X3_dependency : List (Nat × mv_F) := [(0, mi_aload 1 0), (1, mi_iload 2 1), (2, mi_callv 5 kX3_requireComponent 2 3), (5, mi_iload 6 3), (6, mi_const 7 0), (7, mi_const 8 2), (8, mi_calls 11 kX3_isBetween 3), (11, mi_if 14 24 mb_ne mb_nne), (14, mi_throw 0), (24, mi_iload 25 2), (25, mi_const 26 (-1)), (26, mi_icmp 29 39 mc_ne mc_nne), (29, mi_aload 30 0), (30, mi_getf 33 3 0), (33, mi_getf 36 0 2), (36, mi_iload 37 1), (37, mi_iald 38), (38, mi_iret), (39, mi_aload 40 0), (40, mi_getf 43 3 0), (43, mi_iload 44 1), (44, mi_iload 45 2), (45, mi_callv 48 kX0_hasDependency 3 0), (48, mi_if 51 64 mb_eq mb_neq), (51, mi_aload 52 0), (52, mi_getf 55 3 0), (55, mi_iload 56 1), (56, mi_iload 57 2), (57, mi_iload 58 3), (58, mi_callv 61 kX0_partOf 4 0), (61, mi_goto 65), (64, mi_const 65 (-1)), (65, mi_iret)]
def mt_X3_profile : List (Nat × mv_F) := [(0, mi_iload 1 1), (1, mi_const 2 0), (2, mi_const 4 7), (4, mi_calls 7 kX3_isBetween 3), (7, mi_if 10 20 mb_ne mb_nne), (10, mi_throw 0), (20, mi_aload 21 0), (21, mi_getf 24 3 0), (24, mi_getf 27 0 4), (27, mi_iload 28 1), (28, mi_calls 31 kX3_isIn 2), (31, mi_istore 32 3), (32, mi_aload 33 0), (33, mi_getf 36 3 0), (36, mi_iload 37 1), (37, mi_iload 38 2), (38, mi_callv 41 kX0_turnProfile 3 0), (41, mi_iload 42 3), (42, mi_zret)]
def mt_X3_components : List (Nat × mv_F) := [(0, mi_aload 1 0), (1, mi_getf 4 3 0), (4, mi_getf 7 0 3), (7, mi_iret)]
def mt_X3_candidates : List (Nat × mv_F) := [(0, mi_aload 1 0), (1, mi_iload 2 1), (2, mi_iload 3 2), (3, mi_callv 6 kX3_requireTypeAndQualifier 3 3), (6, mi_aload 7 0), (7, mi_getf 10 3 0), (10, mi_iload 11 1), (11, mi_iload 12 2), (12, mi_callv 15 kX0_candidateMask 3 0), (15, mi_iret)]
def mt_X3_chosen : List (Nat × mv_F) := [(0, mi_aload 1 0), (1, mi_iload 2 1), (2, mi_iload 3 2), (3, mi_callv 6 kX3_requireTypeAndQualifier 3 3), (6, mi_aload 7 0), (7, mi_getf 10 3 0), (10, mi_aload 11 0), (11, mi_getf 14 3 0), (14, mi_iload 15 1), (15, mi_iload 16 2), (16, mi_callv 19 kX0_candidateMask 3 0), (19, mi_callv 22 kX0_choiceAmong 2 0), (22, mi_iret)]
def mt_X3_problem : List (Nat × mv_F) := [(0, mi_aload 1 0), (1, mi_iload 2 1), (2, mi_callv 5 kX3_requireComponent 2 3), (5, mi_aload 6 0), (6, mi_const 7 0), (7, mi_putf 10 3 6), (10, mi_aload 11 0), (11, mi_iload 12 1), (12, mi_const 13 0), (13, mi_callv 16 kX3_tryConstruction 3 3), (16, mi_iret)]
def mt_X3_needs : List (Nat × mv_F) := [(0, mi_aload 1 0), (1, mi_iload 2 1), (2, mi_callv 5 kX3_requireComponent 2 3), (5, mi_aload 6 0), (6, mi_getf 9 3 0), (9, mi_iload 10 1), (10, mi_callv 13 kX0_allNeeds 2 0), (13, mi_iret)]
def mt_X3_resolve : List (Nat × mv_F) := [(0, mi_aload 1 0), (1, mi_iload 2 1), (2, mi_iload 3 2), (3, mi_callv 6 kX3_requireTypeAndQualifier 3 3), (6, mi_aload 7 0), (7, mi_iload 8 1), (8, mi_iload 9 2), (9, mi_callv 12 kX3_requestOrThrow 3 3), (12, mi_iret)]
def mt_X3_provide : List (Nat × mv_F) := [(0, mi_aload 1 0), (1, mi_iload 2 1), (2, mi_callv 5 kX3_requireInstance 2 3), (5, mi_aload 6 0), (6, mi_getf 9 3 1), (9, mi_getf 12 2 0), (12, mi_iload 13 1), (13, mi_iald 14), (14, mi_istore 15 3), (15, mi_aload 16 0), (16, mi_getf 19 3 0), (19, mi_iload 20 3), (20, mi_iload 21 2), (21, mi_callv 24 kX0_hasDependency 3 0), (24, mi_if 27 41 mb_eq mb_neq), (27, mi_aload 28 0), (28, mi_getf 31 3 0), (31, mi_iload 32 3), (32, mi_iload 33 2), (33, mi_const 34 2), (34, mi_callv 37 kX0_partOf 4 0), (37, mi_const 38 3), (38, mi_icmp 41 51 mc_eq mc_neq), (41, mi_throw 0), (51, mi_aload 52 0), (52, mi_getf 55 3 1), (55, mi_getf 58 2 2), (58, mi_iload 59 1), (59, mi_zald 60), (60, mi_if 63 73 mb_ne mb_nne), (63, mi_throw 1), (73, mi_aload 74 0), (74, mi_aload 75 0), (75, mi_getf 78 3 0), (78, mi_iload 79 3), (79, mi_iload 80 2), (80, mi_const 81 0), (81, mi_callv 84 kX0_partOf 4 0), (84, mi_aload 85 0), (85, mi_getf 88 3 0), (88, mi_iload 89 3), (89, mi_iload 90 2), (90, mi_const 91 1), (91, mi_callv 94 kX0_partOf 4 0), (94, mi_callv 97 kX3_requestOrThrow 3 3), (97, mi_iret)]
def mt_X3_start : List (Nat × mv_F) := [(0, mi_aload 1 0), (1, mi_getf 4 3 1), (4, mi_getf 7 2 5), (7, mi_istore 8 1), (8, mi_const 9 0), (9, mi_istore 10 2), (10, mi_iload 11 2), (11, mi_aload 12 0), (12, mi_getf 15 3 0), (15, mi_getf 18 0 3), (18, mi_icmp 21 67 mc_ge mc_nge), (21, mi_aload 22 0), (22, mi_getf 25 3 0), (25, mi_iload 26 2), (26, mi_callv 29 kX0_isStarted 2 0), (29, mi_if 32 61 mb_eq mb_neq), (32, mi_aload 33 0), (33, mi_iload 34 2), (34, mi_const 35 0), (35, mi_callv 38 kX3_obtain 3 3), (38, mi_const 40 (-2)), (40, mi_icmp 43 61 mc_ne mc_nne), (43, mi_aload 44 0), (44, mi_getf 47 3 1), (47, mi_iload 48 1), (48, mi_callv 51 kX2_destroyPrototypesFrom 2 2), (51, mi_throw 1), (61, mi_iinc 64 2 1), (64, mi_goto 10), (67, mi_aload 68 0), (68, mi_getf 71 3 1), (71, mi_getf 74 2 5), (74, mi_iload 75 1), (75, mi_bin 76 mb_isub), (76, mi_iret)]
def mt_X3_begin : List (Nat × mv_F) := [(0, mi_aload 1 0), (1, mi_getf 4 3 3), (4, mi_const 5 5), (5, mi_icmp 8 18 mc_lt mc_nlt), (8, mi_throw 1), (18, mi_aload 19 0), (19, mi_dup 20), (20, mi_getf 23 3 3), (23, mi_const 24 1), (24, mi_bin 25 mb_iadd), (25, mi_putf 28 3 3), (28, mi_aload 29 0), (29, mi_getf 32 3 3), (32, mi_iret)]
def mt_X3_end : List (Nat × mv_F) := [(0, mi_aload 1 0), (1, mi_getf 4 3 3), (4, mi_if 7 17 mb_ne mb_nne), (7, mi_throw 1), (17, mi_aload 18 0), (18, mi_callv 21 kX3_closeInnermostScope 1 3), (21, mi_iret)]
def mt_X3_close : List (Nat × mv_F) := [(0, mi_const 1 0), (1, mi_istore 2 1), (2, mi_aload 3 0), (3, mi_getf 6 3 3), (6, mi_istore 7 2), (7, mi_iload 8 2), (8, mi_if 11 24 mb_le mb_nle), (11, mi_iload 12 1), (12, mi_aload 13 0), (13, mi_callv 16 kX3_closeInnermostScope 1 3), (16, mi_bin 17 mb_iadd), (17, mi_istore 18 1), (18, mi_iinc 21 2 (-1)), (21, mi_goto 7), (24, mi_iload 25 1), (25, mi_aload 26 0), (26, mi_getf 29 3 1), (29, mi_const 30 0), (30, mi_callv 33 kX2_destroyAllIn 2 2), (33, mi_bin 34 mb_iadd), (34, mi_iret)]
def mt_X3_instances : List (Nat × mv_F) := [(0, mi_aload 1 0), (1, mi_getf 4 3 1), (4, mi_getf 7 2 5), (7, mi_iret)]
def mt_X3_componentOf : List (Nat × mv_F) := [(0, mi_aload 1 0), (1, mi_iload 2 1), (2, mi_callv 5 kX3_requireInstance 2 3), (5, mi_aload 6 0), (6, mi_getf 9 3 1), (9, mi_getf 12 2 0), (12, mi_iload 13 1), (13, mi_iald 14), (14, mi_iret)]
def mt_X3_isAlive : List (Nat × mv_F) := [(0, mi_aload 1 0), (1, mi_iload 2 1), (2, mi_callv 5 kX3_requireInstance 2 3), (5, mi_aload 6 0), (6, mi_getf 9 3 1), (9, mi_getf 12 2 2), (12, mi_iload 13 1), (13, mi_zald 14), (14, mi_zret)]
def mt_X3_injected : List (Nat × mv_F) := [(0, mi_aload 1 0), (1, mi_iload 2 1), (2, mi_callv 5 kX3_requireInstance 2 3), (5, mi_aload 6 0), (6, mi_getf 9 3 1), (9, mi_iload 10 1), (10, mi_iload 11 2), (11, mi_callv 14 kX2_hasInjection 3 2), (14, mi_if 17 27 mb_ne mb_nne), (17, mi_throw 0), (27, mi_aload 28 0), (28, mi_getf 31 3 1), (31, mi_getf 34 2 3), (34, mi_iload 35 1), (35, mi_const 37 6), (37, mi_bin 38 mb_imul), (38, mi_iload 39 2), (39, mi_bin 40 mb_iadd), (40, mi_iald 41), (41, mi_iret)]
def mt_X3_event : List (Nat × mv_F) := [(0, mi_iload 1 1), (1, mi_const 2 (-1)), (2, mi_icmp 5 13 mc_ne mc_nne), (5, mi_aload 6 0), (6, mi_getf 9 3 1), (9, mi_getf 12 2 9), (12, mi_iret), (13, mi_iload 14 1), (14, mi_if 17 40 mb_lt mb_nlt), (17, mi_iload 18 1), (18, mi_aload 19 0), (19, mi_getf 22 3 1), (22, mi_getf 25 2 9), (25, mi_icmp 28 40 mc_ge mc_nge), (28, mi_aload 29 0), (29, mi_getf 32 3 1), (32, mi_getf 35 2 8), (35, mi_iload 36 1), (36, mi_iald 37), (37, mi_goto 41), (40, mi_const 41 (-1)), (41, mi_iret)]
def mt_X3_failureKind : List (Nat × mv_F) := [(0, mi_aload 1 0), (1, mi_getf 4 3 2), (4, mi_getf 7 1 0), (7, mi_iret)]
def mt_X3_failureDetail : List (Nat × mv_F) := [(0, mi_aload 1 0), (1, mi_getf 4 3 2), (4, mi_getf 7 1 1), (7, mi_iret)]
def mt_X3_failureChain : List (Nat × mv_F) := [(0, mi_iload 1 1), (1, mi_const 2 (-1)), (2, mi_icmp 5 13 mc_ne mc_nne), (5, mi_aload 6 0), (6, mi_getf 9 3 2), (9, mi_getf 12 1 3), (12, mi_iret), (13, mi_iload 14 1), (14, mi_if 17 40 mb_lt mb_nlt), (17, mi_iload 18 1), (18, mi_aload 19 0), (19, mi_getf 22 3 2), (22, mi_getf 25 1 3), (25, mi_icmp 28 40 mc_ge mc_nge), (28, mi_aload 29 0), (29, mi_getf 32 3 2), (32, mi_getf 35 1 2), (35, mi_iload 36 1), (36, mi_iald 37), (37, mi_goto 41), (40, mi_const 41 (-1)), (41, mi_iret)]
def mt_X3_isBetween : List (Nat × mv_F) := [(0, mi_iload 1 0), (1, mi_iload 2 1), (2, mi_icmp 5 14 mc_lt mc_nlt), (5, mi_iload 6 0), (6, mi_iload 7 2), (7, mi_icmp 10 14 mc_gt mc_ngt), (10, mi_const 11 1), (11, mi_goto 15), (14, mi_const 15 0), (15, mi_zret)]
def mt_X3_isPropertyValue : List (Nat × mv_F) := [(0, mi_iload 1 1), (1, mi_gets 4 50), (4, mi_iload 5 0), (5, mi_iald 6), (6, mi_gets 9 51), (9, mi_iload 10 0), (10, mi_iald 11), (11, mi_calls 14 kX3_isBetween 3), (14, mi_zret)]
def mt_X3_requireComponent : List (Nat × mv_F) := [(0, mi_iload 1 1), (1, mi_if 4 15 mb_lt mb_nlt), (4, mi_iload 5 1), (5, mi_aload 6 0), (6, mi_getf 9 3 0), (9, mi_getf 12 0 3), (12, mi_icmp 15 25 mc_lt mc_nlt), (15, mi_throw 2), (25, mi_vret)]
def mt_X3_requireInstance : List (Nat × mv_F) := [(0, mi_iload 1 1), (1, mi_if 4 15 mb_lt mb_nlt), (4, mi_iload 5 1), (5, mi_aload 6 0), (6, mi_getf 9 3 1), (9, mi_getf 12 2 5), (12, mi_icmp 15 25 mc_lt mc_nlt), (15, mi_throw 2), (25, mi_vret)]
def mt_X3_requireProperty : List (Nat × mv_F) := [(0, mi_iload 1 1), (1, mi_const 2 0), (2, mi_const 4 6), (4, mi_calls 7 kX3_isBetween 3), (7, mi_if 10 20 mb_ne mb_nne), (10, mi_throw 0), (20, mi_vret)]
def mt_X3_requireTypeAndQualifier : List (Nat × mv_F) := [(0, mi_iload 1 1), (1, mi_const 2 0), (2, mi_const 4 15), (4, mi_calls 7 kX3_isBetween 3), (7, mi_if 10 20 mb_eq mb_neq), (10, mi_iload 11 2), (11, mi_const 12 (-1)), (12, mi_const 14 9), (14, mi_calls 17 kX3_isBetween 3), (17, mi_if 20 30 mb_ne mb_nne), (20, mi_throw 0), (30, mi_vret)]
def mt_X3_tryConstruction : List (Nat × mv_F) := [(0, mi_const 1 1), (1, mi_iload 2 1), (2, mi_bin 3 mb_ishl), (3, mi_istore 4 3), (4, mi_iload 5 2), (5, mi_iload 6 3), (6, mi_bin 7 mb_iand), (7, mi_if 10 12 mb_eq mb_neq), (10, mi_const 11 3), (11, mi_iret), (12, mi_aload 13 0), (13, mi_getf 16 3 6), (16, mi_iload 17 3), (17, mi_bin 18 mb_iand), (18, mi_if 21 23 mb_eq mb_neq), (21, mi_const 22 0), (22, mi_iret), (23, mi_const 24 0), (24, mi_istore 26 4), (26, mi_iload 28 4), (28, mi_aload 29 0), (29, mi_getf 32 3 0), (32, mi_getf 35 0 2), (35, mi_iload 36 1), (36, mi_iald 37), (37, mi_icmp 40 66 mc_ge mc_nge), (40, mi_aload 41 0), (41, mi_iload 42 1), (42, mi_iload 44 4), (44, mi_iload 45 2), (45, mi_iload 46 3), (46, mi_bin 47 mb_ior), (47, mi_callv 50 kX3_tryDependency 4 3), (50, mi_istore 52 5), (52, mi_iload 54 5), (54, mi_if 57 60 mb_eq mb_neq), (57, mi_iload 59 5), (59, mi_iret), (60, mi_iinc 63 4 1), (63, mi_goto 26), (66, mi_aload 67 0), (67, mi_dup 68), (68, mi_getf 71 3 6), (71, mi_iload 72 3), (72, mi_bin 73 mb_ior), (73, mi_putf 76 3 6), (76, mi_const 77 0), (77, mi_iret)]
def mt_X3_tryDependency : List (Nat × mv_F) := [(0, mi_aload 1 0), (1, mi_getf 4 3 0), (4, mi_iload 5 1), (5, mi_iload 6 2), (6, mi_const 7 2), (7, mi_callv 10 kX0_partOf 4 0), (10, mi_istore 12 4), (12, mi_iload 14 4), (14, mi_const 15 3), (15, mi_icmp 18 20 mc_ne mc_nne), (18, mi_const 19 0), (19, mi_iret), (20, mi_aload 21 0), (21, mi_getf 24 3 0), (24, mi_iload 25 1), (25, mi_iload 26 2), (26, mi_callv 29 kX0_candidatesFor 3 0), (29, mi_istore 31 5), (31, mi_iload 33 4), (33, mi_const 34 2), (34, mi_icmp 37 45 mc_ne mc_nne), (37, mi_aload 38 0), (38, mi_iload 40 5), (40, mi_iload 41 3), (41, mi_callv 44 kX3_tryEach 3 3), (44, mi_iret), (45, mi_iload 47 5), (47, mi_if 50 62 mb_ne mb_nne), (50, mi_iload 52 4), (52, mi_const 53 1), (53, mi_icmp 56 60 mc_ne mc_nne), (56, mi_const 57 0), (57, mi_goto 61), (60, mi_const 61 1), (61, mi_iret), (62, mi_aload 63 0), (63, mi_getf 66 3 0), (66, mi_iload 68 5), (68, mi_callv 71 kX0_choiceAmong 2 0), (71, mi_istore 73 6), (73, mi_iload 75 6), (75, mi_const 76 (-1)), (76, mi_icmp 79 83 mc_ne mc_nne), (79, mi_const 80 2), (80, mi_goto 90), (83, mi_aload 84 0), (84, mi_iload 86 6), (86, mi_iload 87 3), (87, mi_callv 90 kX3_tryConstruction 3 3), (90, mi_iret)]
def mt_X3_tryEach : List (Nat × mv_F) := [(0, mi_const 1 0), (1, mi_istore 2 3), (2, mi_iload 3 3), (3, mi_aload 4 0), (4, mi_getf 7 3 0), (7, mi_getf 10 0 3), (10, mi_icmp 13 43 mc_ge mc_nge), (13, mi_iload 14 1), (14, mi_iload 15 3), (15, mi_calls 18 kX3_isIn 2), (18, mi_if 21 37 mb_eq mb_neq), (21, mi_aload 22 0), (22, mi_iload 23 3), (23, mi_iload 24 2), (24, mi_callv 27 kX3_tryConstruction 3 3), (27, mi_istore 29 4), (29, mi_iload 31 4), (31, mi_if 34 37 mb_eq mb_neq), (34, mi_iload 36 4), (36, mi_iret), (37, mi_iinc 40 3 1), (40, mi_goto 2), (43, mi_const 44 0), (44, mi_iret)]
def mt_X3_requestOrThrow : List (Nat × mv_F) := [(0, mi_aload 1 0), (1, mi_getf 4 3 1), (4, mi_getf 7 2 5), (7, mi_istore 8 3), (8, mi_aload 9 0), (9, mi_iload 10 1), (10, mi_iload 11 2), (11, mi_const 12 0), (12, mi_callv 15 kX3_request 4 3), (15, mi_istore 17 4), (17, mi_iload 19 4), (19, mi_const 21 (-2)), (21, mi_icmp 24 42 mc_ne mc_nne), (24, mi_aload 25 0), (25, mi_getf 28 3 1), (28, mi_iload 29 3), (29, mi_callv 32 kX2_destroyPrototypesFrom 2 2), (32, mi_throw 1), (42, mi_iload 44 4), (44, mi_iret)]
def mt_X3_request : List (Nat × mv_F) := [(0, mi_aload 1 0), (1, mi_getf 4 3 0), (4, mi_iload 5 1), (5, mi_iload 6 2), (6, mi_callv 9 kX0_candidateMask 3 0), (9, mi_istore 11 4), (11, mi_iload 13 4), (13, mi_if 16 24 mb_ne mb_nne), (16, mi_aload 17 0), (17, mi_const 18 1), (18, mi_iload 19 1), (19, mi_iload 20 3), (20, mi_callv 23 kX3_recordFailure 4 3), (23, mi_iret), (24, mi_aload 25 0), (25, mi_getf 28 3 0), (28, mi_iload 30 4), (30, mi_callv 33 kX0_choiceAmong 2 0), (33, mi_istore 35 5), (35, mi_iload 37 5), (37, mi_const 38 (-1)), (38, mi_icmp 41 51 mc_ne mc_nne), (41, mi_aload 42 0), (42, mi_const 43 2), (43, mi_iload 44 1), (44, mi_iload 45 3), (45, mi_callv 48 kX3_recordFailure 4 3), (48, mi_goto 58), (51, mi_aload 52 0), (52, mi_iload 54 5), (54, mi_iload 55 3), (55, mi_callv 58 kX3_obtain 3 3), (58, mi_iret)]
def mt_X3_obtain : List (Nat × mv_F) := [(0, mi_aload 1 0), (1, mi_getf 4 3 0), (4, mi_getf 7 0 0), (7, mi_iload 8 1), (8, mi_aald 9), (9, mi_const 10 1), (10, mi_iald 11), (11, mi_istore 12 3), (12, mi_iload 13 3), (13, mi_const 14 1), (14, mi_icmp 17 25 mc_ne mc_nne), (17, mi_aload 18 0), (18, mi_iload 19 1), (19, mi_const 20 (-1)), (20, mi_iload 21 2), (21, mi_callv 24 kX3_construct 4 3), (24, mi_iret), (25, mi_iload 26 3), (26, mi_const 27 2), (27, mi_icmp 30 45 mc_ne mc_nne), (30, mi_aload 31 0), (31, mi_getf 34 3 3), (34, mi_if 37 45 mb_ne mb_nne), (37, mi_aload 38 0), (38, mi_const 39 4), (39, mi_iload 40 1), (40, mi_iload 41 2), (41, mi_callv 44 kX3_recordFailure 4 3), (44, mi_iret), (45, mi_iload 46 3), (46, mi_if 49 53 mb_ne mb_nne), (49, mi_const 50 0), (50, mi_goto 57), (53, mi_aload 54 0), (54, mi_getf 57 3 3), (57, mi_istore 59 4), (59, mi_aload 60 0), (60, mi_getf 63 3 1), (63, mi_getf 66 2 6), (66, mi_iload 68 4), (68, mi_aald 69), (69, mi_iload 70 1), (70, mi_iald 71), (71, mi_istore 73 5), (73, mi_iload 75 5), (75, mi_const 76 (-1)), (76, mi_icmp 79 90 mc_ne mc_nne), (79, mi_aload 80 0), (80, mi_iload 81 1), (81, mi_iload 83 4), (83, mi_iload 84 2), (84, mi_callv 87 kX3_construct 4 3), (87, mi_goto 92), (90, mi_iload 92 5), (92, mi_iret)]
def mt_X3_construct : List (Nat × mv_F) := [(0, mi_iload 1 3), (1, mi_const 3 20), (3, mi_icmp 6 15 mc_ge mc_nge), (6, mi_aload 7 0), (7, mi_iload 8 1), (8, mi_iload 9 3), (9, mi_callv 12 kX3_isUnderConstruction 3 3), (12, mi_if 15 23 mb_eq mb_neq), (15, mi_aload 16 0), (16, mi_const 17 3), (17, mi_iload 18 1), (18, mi_iload 19 3), (19, mi_callv 22 kX3_recordFailure 4 3), (22, mi_iret), (23, mi_aload 24 0), (24, mi_getf 27 3 4), (27, mi_iload 28 3), (28, mi_iload 29 1), (29, mi_iast 30), (30, mi_aload 31 0), (31, mi_getf 34 3 0), (34, mi_getf 37 0 2), (37, mi_iload 38 1), (38, mi_iald 39), (39, mi_istore 41 4), (41, mi_const 42 0), (42, mi_istore 44 5), (44, mi_iload 46 5), (46, mi_iload 48 4), (48, mi_icmp 51 90 mc_ge mc_nge), (51, mi_aload 52 0), (52, mi_iload 53 1), (53, mi_iload 55 5), (55, mi_iload 56 3), (56, mi_const 57 1), (57, mi_bin 58 mb_iadd), (58, mi_callv 61 kX3_inject 4 3), (61, mi_istore 63 6), (63, mi_iload 65 6), (65, mi_const 67 (-2)), (67, mi_icmp 70 73 mc_ne mc_nne), (70, mi_const 72 (-2)), (72, mi_iret), (73, mi_aload 74 0), (74, mi_getf 77 3 5), (77, mi_iload 78 3), (78, mi_aald 79), (79, mi_iload 81 5), (81, mi_iload 83 6), (83, mi_iast 84), (84, mi_iinc 87 5 1), (87, mi_goto 44), (90, mi_aload 91 0), (91, mi_iload 92 1), (92, mi_iload 93 2), (93, mi_iload 94 3), (94, mi_callv 97 kX3_complete 4 3), (97, mi_iret)]
def mt_X3_isUnderConstruction : List (Nat × mv_F) := [(0, mi_const 1 0), (1, mi_istore 2 3), (2, mi_iload 3 3), (3, mi_iload 4 2), (4, mi_icmp 7 25 mc_ge mc_nge), (7, mi_aload 8 0), (8, mi_getf 11 3 4), (11, mi_iload 12 3), (12, mi_iald 13), (13, mi_iload 14 1), (14, mi_icmp 17 19 mc_ne mc_nne), (17, mi_const 18 1), (18, mi_zret), (19, mi_iinc 22 3 1), (22, mi_goto 2), (25, mi_const 26 0), (26, mi_zret)]
def mt_X3_inject : List (Nat × mv_F) := [(0, mi_aload 1 0), (1, mi_getf 4 3 0), (4, mi_iload 5 1), (5, mi_iload 6 2), (6, mi_const 7 2), (7, mi_callv 10 kX0_partOf 4 0), (10, mi_istore 12 4), (12, mi_iload 14 4), (14, mi_const 15 3), (15, mi_icmp 18 20 mc_ne mc_nne), (18, mi_const 19 (-1)), (19, mi_iret), (20, mi_aload 21 0), (21, mi_getf 24 3 0), (24, mi_iload 25 1), (25, mi_iload 26 2), (26, mi_callv 29 kX0_candidatesFor 3 0), (29, mi_istore 31 5), (31, mi_iload 33 4), (33, mi_const 34 2), (34, mi_icmp 37 45 mc_ne mc_nne), (37, mi_aload 38 0), (38, mi_iload 40 5), (40, mi_iload 41 3), (41, mi_callv 44 kX3_obtainEach 3 3), (44, mi_iret), (45, mi_iload 47 4), (47, mi_const 48 1), (48, mi_icmp 51 58 mc_ne mc_nne), (51, mi_iload 53 5), (53, mi_if 56 58 mb_ne mb_nne), (56, mi_const 57 (-1)), (57, mi_iret), (58, mi_aload 59 0), (59, mi_aload 60 0), (60, mi_getf 63 3 0), (63, mi_iload 64 1), (64, mi_iload 65 2), (65, mi_const 66 0), (66, mi_callv 69 kX0_partOf 4 0), (69, mi_aload 70 0), (70, mi_getf 73 3 0), (73, mi_iload 74 1), (74, mi_iload 75 2), (75, mi_const 76 1), (76, mi_callv 79 kX0_partOf 4 0), (79, mi_iload 80 3), (80, mi_callv 83 kX3_request 4 3), (83, mi_iret)]
def mt_X3_obtainEach : List (Nat × mv_F) := [(0, mi_const 1 0), (1, mi_istore 2 3), (2, mi_const 3 0), (3, mi_istore 5 4), (5, mi_iload 7 4), (7, mi_aload 8 0), (8, mi_getf 11 3 0), (11, mi_getf 14 0 3), (14, mi_icmp 17 50 mc_ge mc_nge), (17, mi_iload 18 1), (18, mi_iload 20 4), (20, mi_calls 23 kX3_isIn 2), (23, mi_if 26 44 mb_eq mb_neq), (26, mi_aload 27 0), (27, mi_iload 29 4), (29, mi_iload 30 2), (30, mi_callv 33 kX3_obtain 3 3), (33, mi_const 35 (-2)), (35, mi_icmp 38 41 mc_ne mc_nne), (38, mi_const 40 (-2)), (40, mi_iret), (41, mi_iinc 44 3 1), (44, mi_iinc 47 4 1), (47, mi_goto 5), (50, mi_iload 51 3), (51, mi_iret)]
def mt_X3_complete : List (Nat × mv_F) := [(0, mi_aload 1 0), (1, mi_getf 4 3 1), (4, mi_getf 7 2 5), (7, mi_const 10 300), (10, mi_icmp 13 23 mc_lt mc_nlt), (13, mi_aload 14 0), (14, mi_const 15 5), (15, mi_iload 16 1), (16, mi_iload 17 3), (17, mi_const 18 1), (18, mi_bin 19 mb_iadd), (19, mi_callv 22 kX3_recordFailure 4 3), (22, mi_iret), (23, mi_aload 24 0), (24, mi_getf 27 3 0), (27, mi_getf 30 0 0), (30, mi_iload 31 1), (31, mi_aald 32), (32, mi_const 34 6), (34, mi_iald 35), (35, mi_istore 37 4), (37, mi_iload 39 4), (39, mi_const 40 (-1)), (40, mi_icmp 43 68 mc_eq mc_neq), (43, mi_aload 44 0), (44, mi_getf 47 3 1), (47, mi_getf 50 2 7), (50, mi_iload 51 1), (51, mi_iald 52), (52, mi_iload 54 4), (54, mi_icmp 57 68 mc_lt mc_nlt), (57, mi_aload 58 0), (58, mi_const 60 6), (60, mi_iload 61 1), (61, mi_iload 62 3), (62, mi_const 63 1), (63, mi_bin 64 mb_iadd), (64, mi_callv 67 kX3_recordFailure 4 3), (67, mi_iret), (68, mi_aload 69 0), (69, mi_getf 72 3 1), (72, mi_iload 73 1), (73, mi_iload 74 2), (74, mi_aload 75 0), (75, mi_getf 78 3 5), (78, mi_iload 79 3), (79, mi_aald 80), (80, mi_aload 81 0), (81, mi_getf 84 3 0), (84, mi_getf 87 0 2), (87, mi_iload 88 1), (88, mi_iald 89), (89, mi_callv 92 kX2_append 5 2), (92, mi_iret)]
def mt_X3_recordFailure : List (Nat × mv_F) := [(0, mi_aload 1 0), (1, mi_getf 4 3 2), (4, mi_iload 5 1), (5, mi_iload 6 2), (6, mi_aload 7 0), (7, mi_getf 10 3 4), (10, mi_iload 11 3), (11, mi_callv 14 kX1_remember 5 1), (14, mi_const 16 (-2)), (16, mi_iret)]
def mt_X3_closeInnermostScope : List (Nat × mv_F) := [(0, mi_aload 1 0), (1, mi_getf 4 3 1), (4, mi_aload 5 0), (5, mi_getf 8 3 3), (8, mi_callv 11 kX2_destroyAllIn 2 2), (11, mi_istore 12 1), (12, mi_aload 13 0), (13, mi_dup 14), (14, mi_getf 17 3 3), (17, mi_const 18 1), (18, mi_bin 19 mb_isub), (19, mi_putf 22 3 3), (22, mi_iload 23 1), (23, mi_iret)]
def mt_X3_isIn : List (Nat × mv_F) := [(0, mi_iload 1 0), (1, mi_const 2 1), (2, mi_iload 3 1), (3, mi_bin 4 mb_ishl), (4, mi_bin 5 mb_iand), (5, mi_if 8 12 mb_eq mb_neq), (8, mi_const 9 1), (9, mi_goto 13), (12, mi_const 13 0), (13, mi_zret)]
def mt_X4_thrown : List (Nat × mv_F) := [(0, mi_aload 1 0), (1, mi_getf 4 4 0), (4, mi_iret)]
def mt_X4_in : List (Nat × mv_F) := [(0, mi_iload 1 0), (1, mi_iload 2 1), (2, mi_icmp 5 14 mc_lt mc_nlt), (5, mi_iload 6 0), (6, mi_iload 7 2), (7, mi_icmp 10 14 mc_gt mc_ngt), (10, mi_const 11 1), (11, mi_goto 15), (14, mi_const 15 0), (15, mi_zret)]
def mt_X4_isComponent : List (Nat × mv_F) := [(0, mi_iload 1 1), (1, mi_const 2 0), (2, mi_aload 3 0), (3, mi_getf 6 4 1), (6, mi_const 7 1), (7, mi_bin 8 mb_isub), (8, mi_calls 11 kX4_in 3), (11, mi_zret)]
def mt_X4_of : List (Nat × mv_F) := [(0, mi_aload 1 0), (1, mi_getf 4 4 2), (4, mi_const 6 7), (6, mi_iload 7 1), (7, mi_bin 8 mb_imul), (8, mi_iload 9 2), (9, mi_bin 10 mb_iadd), (10, mi_iald 11), (11, mi_iret)]
def mt_X4_add : List (Nat × mv_F) := [(0, mi_aload 1 0), (1, mi_iload 2 1), (2, mi_const 3 1), (3, mi_const 5 65535), (5, mi_calls 8 kX4_in 3), (8, mi_if 11 20 mb_eq mb_neq), (11, mi_iload 12 2), (12, mi_const 13 0), (13, mi_const 14 2), (14, mi_calls 17 kX4_in 3), (17, mi_if 20 24 mb_ne mb_nne), (20, mi_const 21 1), (21, mi_goto 38), (24, mi_aload 25 0), (25, mi_getf 28 4 1), (28, mi_const 30 20), (30, mi_icmp 33 37 mc_ne mc_nne), (33, mi_const 34 2), (34, mi_goto 38), (37, mi_const 38 0), (38, mi_putf 41 4 0), (41, mi_aload 42 0), (42, mi_getf 45 4 0), (45, mi_if 48 50 mb_eq mb_neq), (48, mi_const 49 0), (49, mi_iret), (50, mi_aload 51 0), (51, mi_getf 54 4 2), (54, mi_const 56 7), (56, mi_aload 57 0), (57, mi_getf 60 4 1), (60, mi_bin 61 mb_imul), (61, mi_const 62 0), (62, mi_bin 63 mb_iadd), (63, mi_iload 64 1), (64, mi_iast 65), (65, mi_aload 66 0), (66, mi_getf 69 4 2), (69, mi_const 71 7), (71, mi_aload 72 0), (72, mi_getf 75 4 1), (75, mi_bin 76 mb_imul), (76, mi_const 77 1), (77, mi_bin 78 mb_iadd), (78, mi_iload 79 2), (79, mi_iast 80), (80, mi_aload 81 0), (81, mi_getf 84 4 2), (84, mi_const 86 7), (86, mi_aload 87 0), (87, mi_getf 90 4 1), (90, mi_bin 91 mb_imul), (91, mi_const 92 2), (92, mi_bin 93 mb_iadd), (93, mi_const 94 (-1)), (94, mi_iast 95), (95, mi_aload 96 0), (96, mi_getf 99 4 2), (99, mi_const 101 7), (101, mi_aload 102 0), (102, mi_getf 105 4 1), (105, mi_bin 106 mb_imul), (106, mi_const 107 5), (107, mi_bin 108 mb_iadd), (108, mi_const 109 (-1)), (109, mi_iast 110), (110, mi_aload 111 0), (111, mi_getf 114 4 2), (114, mi_const 116 7), (116, mi_aload 117 0), (117, mi_getf 120 4 1), (120, mi_bin 121 mb_imul), (121, mi_const 123 6), (123, mi_bin 124 mb_iadd), (124, mi_const 125 (-1)), (125, mi_iast 126), (126, mi_aload 127 0), (127, mi_dup 128), (128, mi_getf 131 4 1), (131, mi_const 132 1), (132, mi_bin 133 mb_iadd), (133, mi_putf 136 4 1), (136, mi_aload 137 0), (137, mi_getf 140 4 1), (140, mi_const 141 1), (141, mi_bin 142 mb_isub), (142, mi_iret)]
def mt_X4_isValue : List (Nat × mv_F) := [(0, mi_iload 1 0), (1, mi_tsw [(0, 44), (1, 52), (2, 59), (3, 83), (4, 83), (5, 67), (6, 75)] 6 83), (44, mi_iload 45 1), (45, mi_const 46 1), (46, mi_const 48 65535), (48, mi_calls 51 kX4_in 3), (51, mi_zret), (52, mi_iload 53 1), (53, mi_const 54 0), (54, mi_const 55 2), (55, mi_calls 58 kX4_in 3), (58, mi_zret), (59, mi_iload 60 1), (60, mi_const 61 (-1)), (61, mi_const 63 9), (63, mi_calls 66 kX4_in 3), (66, mi_zret), (67, mi_iload 68 1), (68, mi_const 69 (-1)), (69, mi_const 71 7), (71, mi_calls 74 kX4_in 3), (74, mi_zret), (75, mi_iload 76 1), (76, mi_const 77 (-1)), (77, mi_const 79 99), (79, mi_calls 82 kX4_in 3), (82, mi_zret), (83, mi_iload 84 1), (84, mi_const 85 0), (85, mi_const 86 1), (86, mi_calls 89 kX4_in 3), (89, mi_zret)]
def mt_X4_set : List (Nat × mv_F) := [(0, mi_aload 1 0), (1, mi_aload 2 0), (2, mi_iload 3 1), (3, mi_callv 6 kX4_isComponent 2 4), (6, mi_if 9 13 mb_ne mb_nne), (9, mi_const 10 1), (10, mi_goto 36), (13, mi_iload 14 2), (14, mi_const 15 0), (15, mi_const 17 6), (17, mi_calls 20 kX4_in 3), (20, mi_if 23 31 mb_eq mb_neq), (23, mi_iload 24 2), (24, mi_iload 25 3), (25, mi_calls 28 kX4_isValue 2), (28, mi_if 31 35 mb_ne mb_nne), (31, mi_const 32 2), (32, mi_goto 36), (35, mi_const 36 0), (36, mi_putf 39 4 0), (39, mi_aload 40 0), (40, mi_getf 43 4 0), (43, mi_if 46 48 mb_eq mb_neq), (46, mi_const 47 0), (47, mi_iret), (48, mi_aload 49 0), (49, mi_iload 50 1), (50, mi_iload 51 2), (51, mi_callv 54 kX4_of 3 4), (54, mi_istore 56 4), (56, mi_aload 57 0), (57, mi_getf 60 4 2), (60, mi_const 62 7), (62, mi_iload 63 1), (63, mi_bin 64 mb_imul), (64, mi_iload 65 2), (65, mi_bin 66 mb_iadd), (66, mi_iload 67 3), (67, mi_iast 68), (68, mi_iload 70 4), (70, mi_iret)]
def mt_X4_property : List (Nat × mv_F) := [(0, mi_aload 1 0), (1, mi_aload 2 0), (2, mi_iload 3 1), (3, mi_callv 6 kX4_isComponent 2 4), (6, mi_if 9 13 mb_ne mb_nne), (9, mi_const 10 1), (10, mi_goto 28), (13, mi_iload 14 2), (14, mi_const 15 0), (15, mi_const 17 6), (17, mi_calls 20 kX4_in 3), (20, mi_if 23 27 mb_ne mb_nne), (23, mi_const 24 2), (24, mi_goto 28), (27, mi_const 28 0), (28, mi_putf 31 4 0), (31, mi_aload 32 0), (32, mi_getf 35 4 0), (35, mi_if 38 42 mb_eq mb_neq), (38, mi_const 39 0), (39, mi_goto 48), (42, mi_aload 43 0), (43, mi_iload 44 1), (44, mi_iload 45 2), (45, mi_callv 48 kX4_of 3 4), (48, mi_iret)]
def mt_X4_isAsked : List (Nat × mv_F) := [(0, mi_iload 1 0), (1, mi_const 2 0), (2, mi_const 4 15), (4, mi_calls 7 kX4_in 3), (7, mi_if 10 24 mb_eq mb_neq), (10, mi_iload 11 1), (11, mi_const 12 (-1)), (12, mi_const 14 9), (14, mi_calls 17 kX4_in 3), (17, mi_if 20 24 mb_eq mb_neq), (20, mi_const 21 1), (21, mi_goto 25), (24, mi_const 25 0), (25, mi_zret)]
def mt_X4_dependAt : List (Nat × mv_F) := [(0, mi_aload 1 0), (1, mi_getf 4 4 4), (4, mi_const 6 18), (6, mi_iload 7 1), (7, mi_bin 8 mb_imul), (8, mi_const 9 3), (9, mi_iload 10 2), (10, mi_bin 11 mb_imul), (11, mi_bin 12 mb_iadd), (12, mi_iload 13 3), (13, mi_bin 14 mb_iadd), (14, mi_iald 15), (15, mi_iret)]
def mt_X4_depend : List (Nat × mv_F) := [(0, mi_aload 1 0), (1, mi_aload 2 0), (2, mi_iload 3 1), (3, mi_callv 6 kX4_isComponent 2 4), (6, mi_if 9 13 mb_ne mb_nne), (9, mi_const 10 1), (10, mi_goto 51), (13, mi_iload 14 2), (14, mi_iload 15 3), (15, mi_calls 18 kX4_isAsked 2), (18, mi_if 21 31 mb_eq mb_neq), (21, mi_iload 23 4), (23, mi_const 24 0), (24, mi_const 25 3), (25, mi_calls 28 kX4_in 3), (28, mi_if 31 35 mb_ne mb_nne), (31, mi_const 32 2), (32, mi_goto 51), (35, mi_aload 36 0), (36, mi_getf 39 4 3), (39, mi_iload 40 1), (40, mi_iald 41), (41, mi_const 43 6), (43, mi_icmp 46 50 mc_ne mc_nne), (46, mi_const 47 3), (47, mi_goto 51), (50, mi_const 51 0), (51, mi_putf 54 4 0), (54, mi_aload 55 0), (55, mi_getf 58 4 0), (58, mi_if 61 63 mb_eq mb_neq), (61, mi_const 62 0), (62, mi_iret), (63, mi_const 65 18), (65, mi_iload 66 1), (66, mi_bin 67 mb_imul), (67, mi_const 68 3), (68, mi_aload 69 0), (69, mi_getf 72 4 3), (72, mi_iload 73 1), (73, mi_iald 74), (74, mi_bin 75 mb_imul), (75, mi_bin 76 mb_iadd), (76, mi_istore 78 5), (78, mi_aload 79 0), (79, mi_getf 82 4 4), (82, mi_iload 84 5), (84, mi_iload 85 2), (85, mi_iast 86), (86, mi_aload 87 0), (87, mi_getf 90 4 4), (90, mi_iload 92 5), (92, mi_const 93 1), (93, mi_bin 94 mb_iadd), (94, mi_iload 95 3), (95, mi_iast 96), (96, mi_aload 97 0), (97, mi_getf 100 4 4), (100, mi_iload 102 5), (102, mi_const 103 2), (103, mi_bin 104 mb_iadd), (104, mi_iload 106 4), (106, mi_iast 107), (107, mi_aload 108 0), (108, mi_getf 111 4 3), (111, mi_iload 112 1), (112, mi_dup2 113), (113, mi_iald 114), (114, mi_const 115 1), (115, mi_bin 116 mb_iadd), (116, mi_iast 117), (117, mi_aload 118 0), (118, mi_getf 121 4 3), (121, mi_iload 122 1), (122, mi_iald 123), (123, mi_const 124 1), (124, mi_bin 125 mb_isub), (125, mi_iret)]
def mt_X4_clear : List (Nat × mv_F) := [(0, mi_aload 1 0), (1, mi_aload 2 0), (2, mi_iload 3 1), (3, mi_callv 6 kX4_isComponent 2 4), (6, mi_if 9 13 mb_eq mb_neq), (9, mi_const 10 0), (10, mi_goto 14), (13, mi_const 14 1), (14, mi_putf 17 4 0), (17, mi_aload 18 0), (18, mi_getf 21 4 0), (21, mi_if 24 26 mb_eq mb_neq), (24, mi_const 25 0), (25, mi_iret), (26, mi_aload 27 0), (27, mi_getf 30 4 3), (30, mi_iload 31 1), (31, mi_iald 32), (32, mi_istore 33 2), (33, mi_aload 34 0), (34, mi_getf 37 4 3), (37, mi_iload 38 1), (38, mi_const 39 0), (39, mi_iast 40), (40, mi_iload 41 2), (41, mi_iret)]
def mt_X4_dependency : List (Nat × mv_F) := [(0, mi_aload 1 0), (1, mi_aload 2 0), (2, mi_iload 3 1), (3, mi_callv 6 kX4_isComponent 2 4), (6, mi_if 9 13 mb_ne mb_nne), (9, mi_const 10 1), (10, mi_goto 27), (13, mi_iload 14 3), (14, mi_const 15 0), (15, mi_const 16 2), (16, mi_calls 19 kX4_in 3), (19, mi_if 22 26 mb_ne mb_nne), (22, mi_const 23 2), (23, mi_goto 27), (26, mi_const 27 0), (27, mi_putf 30 4 0), (30, mi_aload 31 0), (31, mi_getf 34 4 0), (34, mi_if 37 39 mb_eq mb_neq), (37, mi_const 38 0), (38, mi_iret), (39, mi_iload 40 2), (40, mi_const 41 (-1)), (41, mi_icmp 44 53 mc_ne mc_nne), (44, mi_aload 45 0), (45, mi_getf 48 4 3), (48, mi_iload 49 1), (49, mi_iald 50), (50, mi_goto 80), (53, mi_iload 54 2), (54, mi_const 55 0), (55, mi_aload 56 0), (56, mi_getf 59 4 3), (59, mi_iload 60 1), (60, mi_iald 61), (61, mi_const 62 1), (62, mi_bin 63 mb_isub), (63, mi_calls 66 kX4_in 3), (66, mi_if 69 79 mb_eq mb_neq), (69, mi_aload 70 0), (70, mi_iload 71 1), (71, mi_iload 72 2), (72, mi_iload 73 3), (73, mi_callv 76 kX4_dependAt 4 4), (76, mi_goto 80), (79, mi_const 80 (-1)), (80, mi_iret)]
def mt_X4_profile : List (Nat × mv_F) := [(0, mi_aload 1 0), (1, mi_iload 2 1), (2, mi_const 3 0), (3, mi_const 5 7), (5, mi_calls 8 kX4_in 3), (8, mi_if 11 15 mb_eq mb_neq), (11, mi_const 12 0), (12, mi_goto 16), (15, mi_const 16 1), (16, mi_putf 19 4 0), (19, mi_aload 20 0), (20, mi_getf 23 4 0), (23, mi_if 26 28 mb_eq mb_neq), (26, mi_const 27 0), (27, mi_zret), (28, mi_aload 29 0), (29, mi_getf 32 4 6), (32, mi_iload 33 1), (33, mi_bin 34 mb_ishr), (34, mi_const 35 1), (35, mi_bin 36 mb_iand), (36, mi_const 37 1), (37, mi_icmp 40 44 mc_ne mc_nne), (40, mi_const 41 1), (41, mi_goto 45), (44, mi_const 45 0), (45, mi_istore 46 3), (46, mi_aload 47 0), (47, mi_iload 48 2), (48, mi_if 51 62 mb_eq mb_neq), (51, mi_aload 52 0), (52, mi_getf 55 4 6), (55, mi_const 56 1), (56, mi_iload 57 1), (57, mi_bin 58 mb_ishl), (58, mi_bin 59 mb_ior), (59, mi_goto 72), (62, mi_aload 63 0), (63, mi_getf 66 4 6), (66, mi_const 67 1), (67, mi_iload 68 1), (68, mi_bin 69 mb_ishl), (69, mi_const 70 (-1)), (70, mi_bin 71 mb_ixor), (71, mi_bin 72 mb_iand), (72, mi_putf 75 4 6), (75, mi_iload 76 3), (76, mi_zret)]
def mt_X4_components : List (Nat × mv_F) := [(0, mi_aload 1 0), (1, mi_const 2 0), (2, mi_putf 5 4 0), (5, mi_aload 6 0), (6, mi_getf 9 4 1), (9, mi_iret)]
def mt_X4_isActive : List (Nat × mv_F) := [(0, mi_aload 1 0), (1, mi_iload 2 1), (2, mi_const 3 5), (3, mi_callv 6 kX4_of 3 4), (6, mi_const 7 (-1)), (7, mi_icmp 10 27 mc_eq mc_neq), (10, mi_aload 11 0), (11, mi_getf 14 4 6), (14, mi_aload 15 0), (15, mi_iload 16 1), (16, mi_const 17 5), (17, mi_callv 20 kX4_of 3 4), (20, mi_bin 21 mb_ishr), (21, mi_const 22 1), (22, mi_bin 23 mb_iand), (23, mi_const 24 1), (24, mi_icmp 27 31 mc_ne mc_nne), (27, mi_const 28 1), (28, mi_goto 32), (31, mi_const 32 0), (32, mi_zret)]
def mt_X4_candidatesFor : List (Nat × mv_F) := [(0, mi_const 1 0), (1, mi_istore 2 3), (2, mi_const 3 0), (3, mi_istore 5 4), (5, mi_iload 7 4), (7, mi_aload 8 0), (8, mi_getf 11 4 1), (11, mi_icmp 14 83 mc_ge mc_nge), (14, mi_aload 15 0), (15, mi_iload 17 4), (17, mi_callv 20 kX4_isActive 2 4), (20, mi_if 23 58 mb_eq mb_neq), (23, mi_aload 24 0), (24, mi_iload 26 4), (26, mi_const 27 0), (27, mi_callv 30 kX4_of 3 4), (30, mi_iload 31 1), (31, mi_bin 32 mb_ishr), (32, mi_const 33 1), (33, mi_bin 34 mb_iand), (34, mi_const 35 1), (35, mi_icmp 38 58 mc_ne mc_nne), (38, mi_iload 39 2), (39, mi_const 40 (-1)), (40, mi_icmp 43 54 mc_eq mc_neq), (43, mi_aload 44 0), (44, mi_iload 46 4), (46, mi_const 47 2), (47, mi_callv 50 kX4_of 3 4), (50, mi_iload 51 2), (51, mi_icmp 54 58 mc_ne mc_nne), (54, mi_const 55 1), (55, mi_goto 59), (58, mi_const 59 0), (59, mi_istore 61 5), (61, mi_iload 62 3), (62, mi_iload 64 5), (64, mi_if 67 74 mb_eq mb_neq), (67, mi_const 68 1), (68, mi_iload 70 4), (70, mi_bin 71 mb_ishl), (71, mi_goto 75), (74, mi_const 75 0), (75, mi_bin 76 mb_ior), (76, mi_istore 77 3), (77, mi_iinc 80 4 1), (80, mi_goto 5), (83, mi_iload 84 3), (84, mi_iret)]
def mt_X4_bits : List (Nat × mv_F) := [(0, mi_const 1 0), (1, mi_istore 2 1), (2, mi_const 3 0), (3, mi_istore 4 2), (4, mi_iload 5 2), (5, mi_const 7 20), (7, mi_icmp 10 24 mc_ge mc_nge), (10, mi_iload 11 1), (11, mi_iload 12 0), (12, mi_iload 13 2), (13, mi_bin 14 mb_ishr), (14, mi_const 15 1), (15, mi_bin 16 mb_iand), (16, mi_bin 17 mb_iadd), (17, mi_istore 18 1), (18, mi_iinc 21 2 1), (21, mi_goto 4), (24, mi_iload 25 1), (25, mi_iret)]
def mt_X4_lowest : List (Nat × mv_F) := [(0, mi_const 1 0), (1, mi_istore 2 1), (2, mi_iload 3 0), (3, mi_iload 4 1), (4, mi_bin 5 mb_ishr), (5, mi_const 6 1), (6, mi_bin 7 mb_iand), (7, mi_if 10 16 mb_ne mb_nne), (10, mi_iinc 13 1 1), (13, mi_goto 2), (16, mi_iload 17 1), (17, mi_iret)]
def mt_X4_choose : List (Nat × mv_F) := [(0, mi_aload 1 0), (1, mi_iload 2 1), (2, mi_iload 3 2), (3, mi_callv 6 kX4_candidatesFor 3 4), (6, mi_istore 7 3), (7, mi_iload 8 3), (8, mi_if 11 13 mb_ne mb_nne), (11, mi_const 12 (-1)), (12, mi_iret), (13, mi_iload 14 3), (14, mi_calls 17 kX4_bits 1), (17, mi_const 18 1), (18, mi_icmp 21 26 mc_ne mc_nne), (21, mi_iload 22 3), (22, mi_calls 25 kX4_lowest 1), (25, mi_iret), (26, mi_const 27 0), (27, mi_istore 29 4), (29, mi_const 30 0), (30, mi_istore 32 5), (32, mi_iload 34 5), (34, mi_aload 35 0), (35, mi_getf 38 4 1), (38, mi_icmp 41 81 mc_ge mc_nge), (41, mi_iload 43 4), (43, mi_iload 44 3), (44, mi_iload 46 5), (46, mi_bin 47 mb_ishr), (47, mi_const 48 1), (48, mi_bin 49 mb_iand), (49, mi_const 50 1), (50, mi_icmp 53 71 mc_ne mc_nne), (53, mi_aload 54 0), (54, mi_iload 56 5), (56, mi_const 57 3), (57, mi_callv 60 kX4_of 3 4), (60, mi_const 61 1), (61, mi_icmp 64 71 mc_ne mc_nne), (64, mi_const 65 1), (65, mi_iload 67 5), (67, mi_bin 68 mb_ishl), (68, mi_goto 72), (71, mi_const 72 0), (72, mi_bin 73 mb_ior), (73, mi_istore 75 4), (75, mi_iinc 78 5 1), (78, mi_goto 32), (81, mi_iload 83 4), (83, mi_calls 86 kX4_bits 1), (86, mi_const 87 1), (87, mi_icmp 90 98 mc_ne mc_nne), (90, mi_iload 92 4), (92, mi_calls 95 kX4_lowest 1), (95, mi_goto 100), (98, mi_const 100 (-2)), (100, mi_iret)]
def mt_X4_candidates : List (Nat × mv_F) := [(0, mi_aload 1 0), (1, mi_iload 2 1), (2, mi_iload 3 2), (3, mi_calls 6 kX4_isAsked 2), (6, mi_if 9 13 mb_eq mb_neq), (9, mi_const 10 0), (10, mi_goto 14), (13, mi_const 14 1), (14, mi_putf 17 4 0), (17, mi_aload 18 0), (18, mi_getf 21 4 0), (21, mi_if 24 28 mb_eq mb_neq), (24, mi_const 25 0), (25, mi_goto 34), (28, mi_aload 29 0), (29, mi_iload 30 1), (30, mi_iload 31 2), (31, mi_callv 34 kX4_candidatesFor 3 4), (34, mi_iret)]
def mt_X4_chosen : List (Nat × mv_F) := [(0, mi_aload 1 0), (1, mi_iload 2 1), (2, mi_iload 3 2), (3, mi_calls 6 kX4_isAsked 2), (6, mi_if 9 13 mb_eq mb_neq), (9, mi_const 10 0), (10, mi_goto 14), (13, mi_const 14 1), (14, mi_putf 17 4 0), (17, mi_aload 18 0), (18, mi_getf 21 4 0), (21, mi_if 24 26 mb_eq mb_neq), (24, mi_const 25 0), (25, mi_iret), (26, mi_aload 27 0), (27, mi_iload 28 1), (28, mi_iload 29 2), (29, mi_callv 32 kX4_choose 3 4), (32, mi_istore 33 3), (33, mi_iload 34 3), (34, mi_if 37 41 mb_ge mb_nge), (37, mi_const 38 (-1)), (38, mi_goto 42), (41, mi_iload 42 3), (42, mi_iret)]
def mt_X4_isInFrames : List (Nat × mv_F) := [(0, mi_const 1 0), (1, mi_istore 2 2), (2, mi_const 3 0), (3, mi_istore 4 3), (4, mi_iload 5 3), (5, mi_aload 6 0), (6, mi_getf 9 4 10), (9, mi_icmp 12 38 mc_ge mc_nge), (12, mi_iload 13 2), (13, mi_if 16 26 mb_ne mb_nne), (16, mi_aload 17 0), (17, mi_getf 20 4 7), (20, mi_iload 21 3), (21, mi_iald 22), (22, mi_iload 23 1), (23, mi_icmp 26 30 mc_ne mc_nne), (26, mi_const 27 1), (27, mi_goto 31), (30, mi_const 31 0), (31, mi_istore 32 2), (32, mi_iinc 35 3 1), (35, mi_goto 4), (38, mi_iload 39 2), (39, mi_zret)]
def mt_X4_push : List (Nat × mv_F) := [(0, mi_aload 1 0), (1, mi_getf 4 4 7), (4, mi_aload 5 0), (5, mi_getf 8 4 10), (8, mi_iload 9 1), (9, mi_iast 10), (10, mi_aload 11 0), (11, mi_getf 14 4 8), (14, mi_aload 15 0), (15, mi_getf 18 4 10), (18, mi_const 19 0), (19, mi_iast 20), (20, mi_aload 21 0), (21, mi_getf 24 4 9), (24, mi_aload 25 0), (25, mi_getf 28 4 10), (28, mi_const 29 0), (29, mi_iast 30), (30, mi_aload 31 0), (31, mi_dup 32), (32, mi_getf 35 4 10), (35, mi_const 36 1), (36, mi_bin 37 mb_iadd), (37, mi_putf 40 4 10), (40, mi_vret)]
def mt_X4_wanted : List (Nat × mv_F) := [(0, mi_aload 1 0), (1, mi_iload 2 1), (2, mi_iload 3 2), (3, mi_const 4 2), (4, mi_callv 7 kX4_dependAt 4 4), (7, mi_istore 8 3), (8, mi_aload 9 0), (9, mi_iload 10 1), (10, mi_iload 11 2), (11, mi_const 12 0), (12, mi_callv 15 kX4_dependAt 4 4), (15, mi_istore 17 4), (17, mi_aload 18 0), (18, mi_iload 19 1), (19, mi_iload 20 2), (20, mi_const 21 1), (21, mi_callv 24 kX4_dependAt 4 4), (24, mi_istore 26 5), (26, mi_iload 27 3), (27, mi_const 28 3), (28, mi_icmp 31 33 mc_ne mc_nne), (31, mi_const 32 0), (32, mi_iret), (33, mi_iload 34 3), (34, mi_const 35 2), (35, mi_icmp 38 47 mc_ne mc_nne), (38, mi_aload 39 0), (39, mi_iload 41 4), (41, mi_iload 43 5), (43, mi_callv 46 kX4_candidatesFor 3 4), (46, mi_iret), (47, mi_aload 48 0), (48, mi_iload 50 4), (50, mi_iload 52 5), (52, mi_callv 55 kX4_choose 3 4), (55, mi_istore 57 6), (57, mi_iload 59 6), (59, mi_if 62 69 mb_lt mb_nlt), (62, mi_const 63 1), (63, mi_iload 65 6), (65, mi_bin 66 mb_ishl), (66, mi_goto 86), (69, mi_iload 70 3), (70, mi_const 71 1), (71, mi_icmp 74 84 mc_ne mc_nne), (74, mi_iload 76 6), (76, mi_const 77 (-1)), (77, mi_icmp 80 84 mc_ne mc_nne), (80, mi_const 81 0), (81, mi_goto 86), (84, mi_iload 86 6), (86, mi_iret)]
def mt_X4_wouldGoOn : List (Nat × mv_F) := [(0, mi_aload 1 0), (1, mi_getf 4 4 10), (4, mi_const 5 1), (5, mi_bin 6 mb_isub), (6, mi_istore 7 1), (7, mi_aload 8 0), (8, mi_getf 11 4 9), (11, mi_iload 12 1), (12, mi_iald 13), (13, mi_if 16 71 mb_eq mb_neq), (16, mi_aload 17 0), (17, mi_getf 20 4 9), (20, mi_iload 21 1), (21, mi_iald 22), (22, mi_calls 25 kX4_lowest 1), (25, mi_istore 26 2), (26, mi_aload 27 0), (27, mi_getf 30 4 9), (30, mi_iload 31 1), (31, mi_dup2 32), (32, mi_iald 33), (33, mi_const 34 1), (34, mi_iload 35 2), (35, mi_bin 36 mb_ishl), (36, mi_const 37 (-1)), (37, mi_bin 38 mb_ixor), (38, mi_bin 39 mb_iand), (39, mi_iast 40), (40, mi_aload 41 0), (41, mi_getf 44 4 11), (44, mi_iload 45 2), (45, mi_bin 46 mb_ishr), (46, mi_const 47 1), (47, mi_bin 48 mb_iand), (48, mi_const 49 1), (49, mi_icmp 52 54 mc_ne mc_nne), (52, mi_const 53 0), (53, mi_iret), (54, mi_aload 55 0), (55, mi_iload 56 2), (56, mi_callv 59 kX4_isInFrames 2 4), (59, mi_if 62 64 mb_eq mb_neq), (62, mi_const 63 3), (63, mi_iret), (64, mi_aload 65 0), (65, mi_iload 66 2), (66, mi_callv 69 kX4_push 2 4), (69, mi_const 70 0), (70, mi_iret), (71, mi_aload 72 0), (72, mi_getf 75 4 8), (75, mi_iload 76 1), (76, mi_iald 77), (77, mi_aload 78 0), (78, mi_getf 81 4 3), (81, mi_aload 82 0), (82, mi_getf 85 4 7), (85, mi_iload 86 1), (86, mi_iald 87), (87, mi_iald 88), (88, mi_icmp 91 120 mc_ne mc_nne), (91, mi_aload 92 0), (92, mi_dup 93), (93, mi_getf 96 4 11), (96, mi_const 97 1), (97, mi_aload 98 0), (98, mi_getf 101 4 7), (101, mi_iload 102 1), (102, mi_iald 103), (103, mi_bin 104 mb_ishl), (104, mi_bin 105 mb_ior), (105, mi_putf 108 4 11), (108, mi_aload 109 0), (109, mi_dup 110), (110, mi_getf 113 4 10), (113, mi_const 114 1), (114, mi_bin 115 mb_isub), (115, mi_putf 118 4 10), (118, mi_const 119 0), (119, mi_iret), (120, mi_aload 121 0), (121, mi_aload 122 0), (122, mi_getf 125 4 7), (125, mi_iload 126 1), (126, mi_iald 127), (127, mi_aload 128 0), (128, mi_getf 131 4 8), (131, mi_iload 132 1), (132, mi_iald 133), (133, mi_callv 136 kX4_wanted 3 4), (136, mi_istore 137 2), (137, mi_aload 138 0), (138, mi_getf 141 4 8), (141, mi_iload 142 1), (142, mi_dup2 143), (143, mi_iald 144), (144, mi_const 145 1), (145, mi_bin 146 mb_iadd), (146, mi_iast 147), (147, mi_iload 148 2), (148, mi_if 151 154 mb_ge mb_nge), (151, mi_iload 152 2), (152, mi_neg 153), (153, mi_iret), (154, mi_aload 155 0), (155, mi_getf 158 4 9), (158, mi_iload 159 1), (159, mi_iload 160 2), (160, mi_iast 161), (161, mi_const 162 0), (162, mi_iret)]
def mt_X4_problem : List (Nat × mv_F) := [(0, mi_aload 1 0), (1, mi_aload 2 0), (2, mi_iload 3 1), (3, mi_callv 6 kX4_isComponent 2 4), (6, mi_if 9 13 mb_eq mb_neq), (9, mi_const 10 0), (10, mi_goto 14), (13, mi_const 14 1), (14, mi_putf 17 4 0), (17, mi_aload 18 0), (18, mi_getf 21 4 0), (21, mi_if 24 26 mb_eq mb_neq), (24, mi_const 25 0), (25, mi_iret), (26, mi_aload 27 0), (27, mi_const 28 0), (28, mi_putf 31 4 10), (31, mi_aload 32 0), (32, mi_const 33 0), (33, mi_putf 36 4 11), (36, mi_aload 37 0), (37, mi_iload 38 1), (38, mi_callv 41 kX4_push 2 4), (41, mi_const 42 0), (42, mi_istore 43 2), (43, mi_aload 44 0), (44, mi_getf 47 4 10), (47, mi_if 50 62 mb_le mb_nle), (50, mi_iload 51 2), (51, mi_if 54 62 mb_ne mb_nne), (54, mi_aload 55 0), (55, mi_callv 58 kX4_wouldGoOn 1 4), (58, mi_istore 59 2), (59, mi_goto 43), (62, mi_aload 63 0), (63, mi_const 64 0), (64, mi_putf 67 4 10), (67, mi_iload 68 2), (68, mi_iret)]
def mt_X4_directly : List (Nat × mv_F) := [(0, mi_const 1 0), (1, mi_istore 2 2), (2, mi_const 3 0), (3, mi_istore 4 3), (4, mi_iload 5 3), (5, mi_aload 6 0), (6, mi_getf 9 4 3), (9, mi_iload 10 1), (10, mi_iald 11), (11, mi_icmp 14 42 mc_ge mc_nge), (14, mi_aload 15 0), (15, mi_iload 16 1), (16, mi_iload 17 3), (17, mi_callv 20 kX4_wanted 3 4), (20, mi_istore 22 4), (22, mi_iload 23 2), (23, mi_iload 25 4), (25, mi_if 28 33 mb_le mb_nle), (28, mi_iload 30 4), (30, mi_goto 34), (33, mi_const 34 0), (34, mi_bin 35 mb_ior), (35, mi_istore 36 2), (36, mi_iinc 39 3 1), (39, mi_goto 4), (42, mi_iload 43 2), (43, mi_iret)]
def mt_X4_needs : List (Nat × mv_F) := [(0, mi_aload 1 0), (1, mi_aload 2 0), (2, mi_iload 3 1), (3, mi_callv 6 kX4_isComponent 2 4), (6, mi_if 9 13 mb_eq mb_neq), (9, mi_const 10 0), (10, mi_goto 14), (13, mi_const 14 1), (14, mi_putf 17 4 0), (17, mi_aload 18 0), (18, mi_getf 21 4 0), (21, mi_if 24 26 mb_eq mb_neq), (24, mi_const 25 0), (25, mi_iret), (26, mi_aload 27 0), (27, mi_iload 28 1), (28, mi_callv 31 kX4_directly 2 4), (31, mi_istore 32 2), (32, mi_const 33 0), (33, mi_istore 34 3), (34, mi_iload 35 3), (35, mi_aload 36 0), (36, mi_getf 39 4 1), (39, mi_icmp 42 89 mc_ge mc_nge), (42, mi_const 43 0), (43, mi_istore 45 4), (45, mi_iload 47 4), (47, mi_aload 48 0), (48, mi_getf 51 4 1), (51, mi_icmp 54 83 mc_ge mc_nge), (54, mi_iload 55 2), (55, mi_iload 56 2), (56, mi_iload 58 4), (58, mi_bin 59 mb_ishr), (59, mi_const 60 1), (60, mi_bin 61 mb_iand), (61, mi_const 62 1), (62, mi_icmp 65 74 mc_ne mc_nne), (65, mi_aload 66 0), (66, mi_iload 68 4), (68, mi_callv 71 kX4_directly 2 4), (71, mi_goto 75), (74, mi_const 75 0), (75, mi_bin 76 mb_ior), (76, mi_istore 77 2), (77, mi_iinc 80 4 1), (80, mi_goto 45), (83, mi_iinc 86 3 1), (86, mi_goto 34), (89, mi_iload 90 2), (90, mi_iret)]
def mt_X4_fail : List (Nat × mv_F) := [(0, mi_aload 1 0), (1, mi_iload 2 1), (2, mi_putf 5 4 31), (5, mi_aload 6 0), (6, mi_iload 7 2), (7, mi_putf 10 4 32), (10, mi_vret)]
def mt_X4_construct : List (Nat × mv_F) := [(0, mi_aload 1 0), (1, mi_iload 2 1), (2, mi_callv 5 kX4_isInFrames 2 4), (5, mi_if 8 15 mb_eq mb_neq), (8, mi_aload 9 0), (9, mi_const 10 3), (10, mi_iload 11 1), (11, mi_callv 14 kX4_fail 3 4), (14, mi_vret), (15, mi_aload 16 0), (16, mi_iload 17 1), (17, mi_callv 20 kX4_push 2 4), (20, mi_aload 21 0), (21, mi_getf 24 4 26), (24, mi_aload 25 0), (25, mi_getf 28 4 10), (28, mi_const 29 1), (29, mi_bin 30 mb_isub), (30, mi_iload 31 2), (31, mi_iast 32), (32, mi_aload 33 0), (33, mi_getf 36 4 27), (36, mi_aload 37 0), (37, mi_getf 40 4 10), (40, mi_const 41 1), (41, mi_bin 42 mb_isub), (42, mi_const 43 0), (43, mi_zast 44), (44, mi_vret)]
def mt_X4_living : List (Nat × mv_F) := [(0, mi_const 1 (-1)), (1, mi_istore 2 3), (2, mi_const 3 0), (3, mi_istore 5 4), (5, mi_iload 7 4), (7, mi_aload 8 0), (8, mi_getf 11 4 12), (11, mi_icmp 14 89 mc_ge mc_nge), (14, mi_aload 15 0), (15, mi_getf 18 4 16), (18, mi_iload 20 4), (20, mi_zald 21), (21, mi_if 24 68 mb_eq mb_neq), (24, mi_aload 25 0), (25, mi_getf 28 4 13), (28, mi_iload 30 4), (30, mi_iald 31), (31, mi_iload 32 1), (32, mi_icmp 35 68 mc_ne mc_nne), (35, mi_aload 36 0), (36, mi_getf 39 4 14), (39, mi_iload 41 4), (41, mi_iald 42), (42, mi_iload 43 2), (43, mi_icmp 46 68 mc_ne mc_nne), (46, mi_iload 47 2), (47, mi_if 50 64 mb_eq mb_neq), (50, mi_aload 51 0), (51, mi_getf 54 4 15), (54, mi_iload 56 4), (56, mi_iald 57), (57, mi_aload 58 0), (58, mi_getf 61 4 19), (61, mi_icmp 64 68 mc_ne mc_nne), (64, mi_const 65 1), (65, mi_goto 69), (68, mi_const 69 0), (69, mi_istore 71 5), (71, mi_iload 73 5), (73, mi_if 76 81 mb_eq mb_neq), (76, mi_iload 78 4), (78, mi_goto 82), (81, mi_iload 82 3), (82, mi_istore 83 3), (83, mi_iinc 86 4 1), (86, mi_goto 5), (89, mi_iload 90 3), (90, mi_iret)]
def mt_X4_obtain : List (Nat × mv_F) := [(0, mi_aload 1 0), (1, mi_iload 2 1), (2, mi_const 3 1), (3, mi_callv 6 kX4_of 3 4), (6, mi_istore 7 2), (7, mi_aload 8 0), (8, mi_const 9 (-1)), (9, mi_putf 12 4 30), (12, mi_iload 13 2), (13, mi_const 14 2), (14, mi_icmp 17 31 mc_ne mc_nne), (17, mi_aload 18 0), (18, mi_getf 21 4 19), (21, mi_if 24 31 mb_ne mb_nne), (24, mi_aload 25 0), (25, mi_const 26 4), (26, mi_iload 27 1), (27, mi_callv 30 kX4_fail 3 4), (30, mi_vret), (31, mi_aload 32 0), (32, mi_iload 33 2), (33, mi_const 34 1), (34, mi_icmp 37 41 mc_ne mc_nne), (37, mi_const 38 (-1)), (38, mi_goto 47), (41, mi_aload 42 0), (42, mi_iload 43 1), (43, mi_iload 44 2), (44, mi_callv 47 kX4_living 3 4), (47, mi_putf 50 4 30), (50, mi_aload 51 0), (51, mi_getf 54 4 30), (54, mi_if 57 63 mb_ge mb_nge), (57, mi_aload 58 0), (58, mi_iload 59 1), (59, mi_iload 60 2), (60, mi_callv 63 kX4_construct 3 4), (63, mi_vret)]
def mt_X4_inject : List (Nat × mv_F) := [(0, mi_aload 1 0), (1, mi_getf 4 4 29), (4, mi_const 6 6), (6, mi_iload 7 1), (7, mi_bin 8 mb_imul), (8, mi_aload 9 0), (9, mi_getf 12 4 8), (12, mi_iload 13 1), (13, mi_iald 14), (14, mi_bin 15 mb_iadd), (15, mi_iload 16 2), (16, mi_iast 17), (17, mi_aload 18 0), (18, mi_getf 21 4 8), (21, mi_iload 22 1), (22, mi_dup2 23), (23, mi_iald 24), (24, mi_const 25 1), (25, mi_bin 26 mb_iadd), (26, mi_iast 27), (27, mi_vret)]
def mt_X4_serve : List (Nat × mv_F) := [(0, mi_aload 1 0), (1, mi_getf 4 4 7), (4, mi_iload 5 1), (5, mi_iald 6), (6, mi_istore 7 2), (7, mi_aload 8 0), (8, mi_getf 11 4 8), (11, mi_iload 12 1), (12, mi_iald 13), (13, mi_istore 14 3), (14, mi_aload 15 0), (15, mi_iload 16 2), (16, mi_iload 17 3), (17, mi_const 18 2), (18, mi_callv 21 kX4_dependAt 4 4), (21, mi_istore 23 4), (23, mi_aload 24 0), (24, mi_iload 25 2), (25, mi_iload 26 3), (26, mi_callv 29 kX4_wanted 3 4), (29, mi_istore 31 5), (31, mi_iload 33 5), (33, mi_if 36 53 mb_ge mb_nge), (36, mi_aload 37 0), (37, mi_iload 39 5), (39, mi_neg 40), (40, mi_aload 41 0), (41, mi_iload 42 2), (42, mi_iload 43 3), (43, mi_const 44 0), (44, mi_callv 47 kX4_dependAt 4 4), (47, mi_callv 50 kX4_fail 3 4), (50, mi_goto 112), (53, mi_iload 55 5), (55, mi_if 58 77 mb_ne mb_nne), (58, mi_aload 59 0), (59, mi_iload 60 1), (60, mi_iload 62 4), (62, mi_const 63 2), (63, mi_icmp 66 70 mc_ne mc_nne), (66, mi_const 67 0), (67, mi_goto 71), (70, mi_const 71 (-1)), (71, mi_callv 74 kX4_inject 3 4), (74, mi_goto 112), (77, mi_aload 78 0), (78, mi_getf 81 4 9), (81, mi_iload 82 1), (82, mi_iload 84 5), (84, mi_iast 85), (85, mi_aload 86 0), (86, mi_getf 89 4 28), (89, mi_iload 90 1), (90, mi_iload 92 5), (92, mi_calls 95 kX4_bits 1), (95, mi_iast 96), (96, mi_aload 97 0), (97, mi_getf 100 4 27), (100, mi_iload 101 1), (101, mi_const 102 1), (102, mi_zast 103), (103, mi_aload 104 0), (104, mi_iload 106 5), (106, mi_calls 109 kX4_lowest 1), (109, mi_callv 112 kX4_obtain 2 4), (112, mi_vret)]
def mt_X4_receive : List (Nat × mv_F) := [(0, mi_aload 1 0), (1, mi_getf 4 4 9), (4, mi_iload 5 1), (5, mi_dup2 6), (6, mi_iald 7), (7, mi_aload 8 0), (8, mi_getf 11 4 9), (11, mi_iload 12 1), (12, mi_iald 13), (13, mi_const 14 1), (14, mi_bin 15 mb_isub), (15, mi_bin 16 mb_iand), (16, mi_iast 17), (17, mi_aload 18 0), (18, mi_getf 21 4 9), (21, mi_iload 22 1), (22, mi_iald 23), (23, mi_if 26 40 mb_eq mb_neq), (26, mi_aload 27 0), (27, mi_aload 28 0), (28, mi_getf 31 4 9), (31, mi_iload 32 1), (32, mi_iald 33), (33, mi_calls 36 kX4_lowest 1), (36, mi_callv 39 kX4_obtain 2 4), (39, mi_vret), (40, mi_aload 41 0), (41, mi_getf 44 4 27), (44, mi_iload 45 1), (45, mi_const 46 0), (46, mi_zast 47), (47, mi_aload 48 0), (48, mi_aload 49 0), (49, mi_getf 52 4 7), (52, mi_iload 53 1), (53, mi_iald 54), (54, mi_aload 55 0), (55, mi_getf 58 4 8), (58, mi_iload 59 1), (59, mi_iald 60), (60, mi_const 61 2), (61, mi_callv 64 kX4_dependAt 4 4), (64, mi_istore 65 2), (65, mi_aload 66 0), (66, mi_iload 67 1), (67, mi_iload 68 2), (68, mi_const 69 2), (69, mi_icmp 72 81 mc_ne mc_nne), (72, mi_aload 73 0), (73, mi_getf 76 4 28), (76, mi_iload 77 1), (77, mi_iald 78), (78, mi_goto 85), (81, mi_aload 82 0), (82, mi_getf 85 4 30), (85, mi_callv 88 kX4_inject 3 4), (88, mi_vret)]
def mt_X4_note : List (Nat × mv_F) := [(0, mi_aload 1 0), (1, mi_getf 4 4 21), (4, mi_aload 5 0), (5, mi_getf 8 4 20), (8, mi_iload 9 1), (9, mi_iast 10), (10, mi_aload 11 0), (11, mi_dup 12), (12, mi_getf 15 4 20), (15, mi_const 16 1), (16, mi_bin 17 mb_iadd), (17, mi_putf 20 4 20), (20, mi_vret)]
def mt_X4_complete : List (Nat × mv_F) := [(0, mi_aload 1 0), (1, mi_getf 4 4 7), (4, mi_iload 5 1), (5, mi_iald 6), (6, mi_istore 7 2), (7, mi_aload 8 0), (8, mi_getf 11 4 12), (11, mi_const 14 300), (14, mi_icmp 17 24 mc_ne mc_nne), (17, mi_aload 18 0), (18, mi_const 19 5), (19, mi_iload 20 2), (20, mi_callv 23 kX4_fail 3 4), (23, mi_vret), (24, mi_aload 25 0), (25, mi_iload 26 2), (26, mi_const 28 6), (28, mi_callv 31 kX4_of 3 4), (31, mi_const 32 (-1)), (32, mi_icmp 35 59 mc_eq mc_neq), (35, mi_aload 36 0), (36, mi_getf 39 4 5), (39, mi_iload 40 2), (40, mi_iald 41), (41, mi_aload 42 0), (42, mi_iload 43 2), (43, mi_const 45 6), (45, mi_callv 48 kX4_of 3 4), (48, mi_icmp 51 59 mc_lt mc_nlt), (51, mi_aload 52 0), (52, mi_const 54 6), (54, mi_iload 55 2), (55, mi_callv 58 kX4_fail 3 4), (58, mi_vret), (59, mi_aload 60 0), (60, mi_getf 63 4 12), (63, mi_istore 64 3), (64, mi_aload 65 0), (65, mi_getf 68 4 13), (68, mi_iload 69 3), (69, mi_iload 70 2), (70, mi_iast 71), (71, mi_aload 72 0), (72, mi_getf 75 4 14), (75, mi_iload 76 3), (76, mi_aload 77 0), (77, mi_getf 80 4 26), (80, mi_iload 81 1), (81, mi_iald 82), (82, mi_iast 83), (83, mi_aload 84 0), (84, mi_getf 87 4 15), (87, mi_iload 88 3), (88, mi_aload 89 0), (89, mi_getf 92 4 26), (92, mi_iload 93 1), (93, mi_iald 94), (94, mi_const 95 2), (95, mi_icmp 98 105 mc_ne mc_nne), (98, mi_aload 99 0), (99, mi_getf 102 4 19), (102, mi_goto 106), (105, mi_const 106 0), (106, mi_iast 107), (107, mi_aload 108 0), (108, mi_getf 111 4 16), (111, mi_iload 112 3), (112, mi_const 113 1), (113, mi_zast 114), (114, mi_aload 115 0), (115, mi_getf 118 4 17), (118, mi_iload 119 3), (119, mi_aload 120 0), (120, mi_getf 123 4 3), (123, mi_iload 124 2), (124, mi_iald 125), (125, mi_iast 126), (126, mi_const 127 0), (127, mi_istore 129 4), (129, mi_iload 131 4), (131, mi_const 133 6), (133, mi_icmp 136 166 mc_ge mc_nge), (136, mi_aload 137 0), (137, mi_getf 140 4 18), (140, mi_const 142 6), (142, mi_iload 143 3), (143, mi_bin 144 mb_imul), (144, mi_iload 146 4), (146, mi_bin 147 mb_iadd), (147, mi_aload 148 0), (148, mi_getf 151 4 29), (151, mi_const 153 6), (153, mi_iload 154 1), (154, mi_bin 155 mb_imul), (155, mi_iload 157 4), (157, mi_bin 158 mb_iadd), (158, mi_iald 159), (159, mi_iast 160), (160, mi_iinc 163 4 1), (163, mi_goto 129), (166, mi_aload 167 0), (167, mi_const 168 2), (168, mi_iload 169 3), (169, mi_bin 170 mb_imul), (170, mi_callv 173 kX4_note 2 4), (173, mi_aload 174 0), (174, mi_getf 177 4 5), (177, mi_iload 178 2), (178, mi_dup2 179), (179, mi_iald 180), (180, mi_const 181 1), (181, mi_bin 182 mb_iadd), (182, mi_iast 183), (183, mi_aload 184 0), (184, mi_dup 185), (185, mi_getf 188 4 12), (188, mi_const 189 1), (189, mi_bin 190 mb_iadd), (190, mi_putf 193 4 12), (193, mi_aload 194 0), (194, mi_dup 195), (195, mi_getf 198 4 10), (198, mi_const 199 1), (199, mi_bin 200 mb_isub), (200, mi_putf 203 4 10), (203, mi_aload 204 0), (204, mi_iload 205 3), (205, mi_putf 208 4 30), (208, mi_vret)]
def mt_X4_goOn : List (Nat × mv_F) := [(0, mi_aload 1 0), (1, mi_getf 4 4 10), (4, mi_const 5 1), (5, mi_bin 6 mb_isub), (6, mi_istore 7 1), (7, mi_aload 8 0), (8, mi_getf 11 4 27), (11, mi_iload 12 1), (12, mi_zald 13), (13, mi_if 16 24 mb_eq mb_neq), (16, mi_aload 17 0), (17, mi_iload 18 1), (18, mi_callv 21 kX4_receive 2 4), (21, mi_goto 57), (24, mi_aload 25 0), (25, mi_getf 28 4 8), (28, mi_iload 29 1), (29, mi_iald 30), (30, mi_aload 31 0), (31, mi_getf 34 4 3), (34, mi_aload 35 0), (35, mi_getf 38 4 7), (38, mi_iload 39 1), (39, mi_iald 40), (40, mi_iald 41), (41, mi_icmp 44 52 mc_ne mc_nne), (44, mi_aload 45 0), (45, mi_iload 46 1), (46, mi_callv 49 kX4_complete 2 4), (49, mi_goto 57), (52, mi_aload 53 0), (53, mi_iload 54 1), (54, mi_callv 57 kX4_serve 2 4), (57, mi_vret)]
def mt_X4_clean : List (Nat × mv_F) := [(0, mi_aload 1 0), (1, mi_const 2 0), (2, mi_putf 5 4 10), (5, mi_aload 6 0), (6, mi_const 7 0), (7, mi_putf 10 4 31), (10, mi_aload 11 0), (11, mi_const 12 (-1)), (12, mi_putf 15 4 30), (15, mi_vret)]
def mt_X4_destroy : List (Nat × mv_F) := [(0, mi_aload 1 0), (1, mi_getf 4 4 16), (4, mi_iload 5 1), (5, mi_const 6 0), (6, mi_zast 7), (7, mi_aload 8 0), (8, mi_const 9 2), (9, mi_iload 10 1), (10, mi_bin 11 mb_imul), (11, mi_const 12 1), (12, mi_bin 13 mb_iadd), (13, mi_callv 16 kX4_note 2 4), (16, mi_vret)]
def mt_X4_make : List (Nat × mv_F) := [(0, mi_aload 1 0), (1, mi_iload 2 1), (2, mi_callv 5 kX4_obtain 2 4), (5, mi_aload 6 0), (6, mi_getf 9 4 10), (9, mi_if 12 26 mb_le mb_nle), (12, mi_aload 13 0), (13, mi_getf 16 4 31), (16, mi_if 19 26 mb_ne mb_nne), (19, mi_aload 20 0), (20, mi_callv 23 kX4_goOn 1 4), (23, mi_goto 5), (26, mi_vret)]
def mt_X4_settle : List (Nat × mv_F) := [(0, mi_aload 1 0), (1, mi_getf 4 4 31), (4, mi_if 7 9 mb_ne mb_nne), (7, mi_const 8 0), (8, mi_zret), (9, mi_aload 10 0), (10, mi_aload 11 0), (11, mi_getf 14 4 31), (14, mi_putf 17 4 22), (17, mi_aload 18 0), (18, mi_aload 19 0), (19, mi_getf 22 4 32), (22, mi_putf 25 4 23), (25, mi_aload 26 0), (26, mi_aload 27 0), (27, mi_getf 30 4 10), (30, mi_putf 33 4 24), (33, mi_const 34 0), (34, mi_istore 35 2), (35, mi_iload 36 2), (36, mi_aload 37 0), (37, mi_getf 40 4 10), (40, mi_icmp 43 61 mc_ge mc_nge), (43, mi_aload 44 0), (44, mi_getf 47 4 25), (47, mi_iload 48 2), (48, mi_aload 49 0), (49, mi_getf 52 4 7), (52, mi_iload 53 2), (53, mi_iald 54), (54, mi_iast 55), (55, mi_iinc 58 2 1), (58, mi_goto 35), (61, mi_aload 62 0), (62, mi_getf 65 4 12), (65, mi_const 66 1), (66, mi_bin 67 mb_isub), (67, mi_istore 68 2), (68, mi_iload 69 2), (69, mi_iload 70 1), (70, mi_icmp 73 103 mc_lt mc_nlt), (73, mi_aload 74 0), (74, mi_getf 77 4 16), (77, mi_iload 78 2), (78, mi_zald 79), (79, mi_if 82 97 mb_eq mb_neq), (82, mi_aload 83 0), (83, mi_getf 86 4 14), (86, mi_iload 87 2), (87, mi_iald 88), (88, mi_const 89 1), (89, mi_icmp 92 97 mc_ne mc_nne), (92, mi_aload 93 0), (93, mi_iload 94 2), (94, mi_callv 97 kX4_destroy 2 4), (97, mi_iinc 100 2 (-1)), (100, mi_goto 68), (103, mi_aload 104 0), (104, mi_const 105 0), (105, mi_putf 108 4 10), (108, mi_const 109 1), (109, mi_zret)]
def mt_X4_request : List (Nat × mv_F) := [(0, mi_aload 1 0), (1, mi_getf 4 4 12), (4, mi_istore 5 3), (5, mi_aload 6 0), (6, mi_callv 9 kX4_clean 1 4), (9, mi_aload 10 0), (10, mi_iload 11 1), (11, mi_iload 12 2), (12, mi_callv 15 kX4_choose 3 4), (15, mi_istore 17 4), (17, mi_iload 19 4), (19, mi_if 22 33 mb_ge mb_nge), (22, mi_aload 23 0), (23, mi_iload 25 4), (25, mi_neg 26), (26, mi_iload 27 1), (27, mi_callv 30 kX4_fail 3 4), (30, mi_goto 39), (33, mi_aload 34 0), (34, mi_iload 36 4), (36, mi_callv 39 kX4_make 2 4), (39, mi_aload 40 0), (40, mi_iload 41 3), (41, mi_callv 44 kX4_settle 2 4), (44, mi_if 47 51 mb_eq mb_neq), (47, mi_const 48 (-1)), (48, mi_goto 55), (51, mi_aload 52 0), (52, mi_getf 55 4 30), (55, mi_iret)]
def mt_X4_resolve : List (Nat × mv_F) := [(0, mi_aload 1 0), (1, mi_iload 2 1), (2, mi_iload 3 2), (3, mi_calls 6 kX4_isAsked 2), (6, mi_if 9 13 mb_eq mb_neq), (9, mi_const 10 0), (10, mi_goto 14), (13, mi_const 14 1), (14, mi_putf 17 4 0), (17, mi_aload 18 0), (18, mi_getf 21 4 0), (21, mi_if 24 26 mb_eq mb_neq), (24, mi_const 25 0), (25, mi_iret), (26, mi_aload 27 0), (27, mi_iload 28 1), (28, mi_iload 29 2), (29, mi_callv 32 kX4_request 3 4), (32, mi_istore 33 3), (33, mi_aload 34 0), (34, mi_iload 35 3), (35, mi_if 38 42 mb_ge mb_nge), (38, mi_const 39 2), (39, mi_goto 43), (42, mi_const 43 0), (43, mi_putf 46 4 0), (46, mi_aload 47 0), (47, mi_getf 50 4 0), (50, mi_if 53 57 mb_eq mb_neq), (53, mi_const 54 0), (54, mi_goto 58), (57, mi_iload 58 3), (58, mi_iret)]
def mt_X4_isInstance : List (Nat × mv_F) := [(0, mi_iload 1 1), (1, mi_const 2 0), (2, mi_aload 3 0), (3, mi_getf 6 4 12), (6, mi_const 7 1), (7, mi_bin 8 mb_isub), (8, mi_calls 11 kX4_in 3), (11, mi_zret)]
def mt_X4_isLater : List (Nat × mv_F) := [(0, mi_iload 1 2), (1, mi_const 2 0), (2, mi_aload 3 0), (3, mi_getf 6 4 3), (6, mi_iload 7 1), (7, mi_iald 8), (8, mi_const 9 1), (9, mi_bin 10 mb_isub), (10, mi_calls 13 kX4_in 3), (13, mi_if 16 31 mb_eq mb_neq), (16, mi_aload 17 0), (17, mi_iload 18 1), (18, mi_iload 19 2), (19, mi_const 20 2), (20, mi_callv 23 kX4_dependAt 4 4), (23, mi_const 24 3), (24, mi_icmp 27 31 mc_ne mc_nne), (27, mi_const 28 1), (28, mi_goto 32), (31, mi_const 32 0), (32, mi_zret)]
def mt_X4_provide : List (Nat × mv_F) := [(0, mi_aload 1 0), (1, mi_aload 2 0), (2, mi_iload 3 1), (3, mi_callv 6 kX4_isInstance 2 4), (6, mi_if 9 13 mb_ne mb_nne), (9, mi_const 10 1), (10, mi_goto 45), (13, mi_aload 14 0), (14, mi_aload 15 0), (15, mi_getf 18 4 13), (18, mi_iload 19 1), (19, mi_iald 20), (20, mi_iload 21 2), (21, mi_callv 24 kX4_isLater 3 4), (24, mi_if 27 31 mb_ne mb_nne), (27, mi_const 28 2), (28, mi_goto 45), (31, mi_aload 32 0), (32, mi_getf 35 4 16), (35, mi_iload 36 1), (36, mi_zald 37), (37, mi_if 40 44 mb_ne mb_nne), (40, mi_const 41 3), (41, mi_goto 45), (44, mi_const 45 0), (45, mi_putf 48 4 0), (48, mi_aload 49 0), (49, mi_getf 52 4 0), (52, mi_if 55 57 mb_eq mb_neq), (55, mi_const 56 0), (56, mi_iret), (57, mi_aload 58 0), (58, mi_getf 61 4 13), (61, mi_iload 62 1), (62, mi_iald 63), (63, mi_istore 64 3), (64, mi_aload 65 0), (65, mi_aload 66 0), (66, mi_iload 67 3), (67, mi_iload 68 2), (68, mi_const 69 0), (69, mi_callv 72 kX4_dependAt 4 4), (72, mi_aload 73 0), (73, mi_iload 74 3), (74, mi_iload 75 2), (75, mi_const 76 1), (76, mi_callv 79 kX4_dependAt 4 4), (79, mi_callv 82 kX4_request 3 4), (82, mi_istore 84 4), (84, mi_aload 85 0), (85, mi_iload 87 4), (87, mi_if 90 94 mb_ge mb_nge), (90, mi_const 91 3), (91, mi_goto 95), (94, mi_const 95 0), (95, mi_putf 98 4 0), (98, mi_aload 99 0), (99, mi_getf 102 4 0), (102, mi_if 105 109 mb_eq mb_neq), (105, mi_const 106 0), (106, mi_goto 111), (109, mi_iload 111 4), (111, mi_iret)]
def mt_X4_start : List (Nat × mv_F) := [(0, mi_aload 1 0), (1, mi_getf 4 4 12), (4, mi_istore 5 1), (5, mi_aload 6 0), (6, mi_callv 9 kX4_clean 1 4), (9, mi_const 10 0), (10, mi_istore 11 2), (11, mi_iload 12 2), (12, mi_aload 13 0), (13, mi_getf 16 4 1), (16, mi_icmp 19 63 mc_ge mc_nge), (19, mi_aload 20 0), (20, mi_getf 23 4 31), (23, mi_if 26 63 mb_ne mb_nne), (26, mi_aload 27 0), (27, mi_iload 28 2), (28, mi_callv 31 kX4_isActive 2 4), (31, mi_if 34 57 mb_eq mb_neq), (34, mi_aload 35 0), (35, mi_iload 36 2), (36, mi_const 37 1), (37, mi_callv 40 kX4_of 3 4), (40, mi_if 43 57 mb_ne mb_nne), (43, mi_aload 44 0), (44, mi_iload 45 2), (45, mi_const 46 4), (46, mi_callv 49 kX4_of 3 4), (49, mi_if 52 57 mb_ne mb_nne), (52, mi_aload 53 0), (53, mi_iload 54 2), (54, mi_callv 57 kX4_make 2 4), (57, mi_iinc 60 2 1), (60, mi_goto 11), (63, mi_aload 64 0), (64, mi_aload 65 0), (65, mi_iload 66 1), (66, mi_callv 69 kX4_settle 2 4), (69, mi_if 72 76 mb_eq mb_neq), (72, mi_const 73 1), (73, mi_goto 77), (76, mi_const 77 0), (77, mi_putf 80 4 0), (80, mi_aload 81 0), (81, mi_getf 84 4 0), (84, mi_if 87 91 mb_eq mb_neq), (87, mi_const 88 0), (88, mi_goto 97), (91, mi_aload 92 0), (92, mi_getf 95 4 12), (95, mi_iload 96 1), (96, mi_bin 97 mb_isub), (97, mi_iret)]
def mt_X4_begin : List (Nat × mv_F) := [(0, mi_aload 1 0), (1, mi_aload 2 0), (2, mi_getf 5 4 19), (5, mi_const 6 5), (6, mi_icmp 9 13 mc_ne mc_nne), (9, mi_const 10 1), (10, mi_goto 14), (13, mi_const 14 0), (14, mi_putf 17 4 0), (17, mi_aload 18 0), (18, mi_getf 21 4 0), (21, mi_if 24 26 mb_eq mb_neq), (24, mi_const 25 0), (25, mi_iret), (26, mi_aload 27 0), (27, mi_dup 28), (28, mi_getf 31 4 19), (31, mi_const 32 1), (32, mi_bin 33 mb_iadd), (33, mi_putf 36 4 19), (36, mi_aload 37 0), (37, mi_getf 40 4 19), (40, mi_iret)]
def mt_X4_endScope : List (Nat × mv_F) := [(0, mi_const 1 0), (1, mi_istore 2 1), (2, mi_aload 3 0), (3, mi_getf 6 4 12), (6, mi_const 7 1), (7, mi_bin 8 mb_isub), (8, mi_istore 9 2), (9, mi_iload 10 2), (10, mi_if 13 59 mb_lt mb_nlt), (13, mi_aload 14 0), (14, mi_getf 17 4 16), (17, mi_iload 18 2), (18, mi_zald 19), (19, mi_if 22 53 mb_eq mb_neq), (22, mi_aload 23 0), (23, mi_getf 26 4 14), (26, mi_iload 27 2), (27, mi_iald 28), (28, mi_const 29 2), (29, mi_icmp 32 53 mc_ne mc_nne), (32, mi_aload 33 0), (33, mi_getf 36 4 15), (36, mi_iload 37 2), (37, mi_iald 38), (38, mi_aload 39 0), (39, mi_getf 42 4 19), (42, mi_icmp 45 53 mc_ne mc_nne), (45, mi_aload 46 0), (46, mi_iload 47 2), (47, mi_callv 50 kX4_destroy 2 4), (50, mi_iinc 53 1 1), (53, mi_iinc 56 2 (-1)), (56, mi_goto 9), (59, mi_aload 60 0), (60, mi_dup 61), (61, mi_getf 64 4 19), (64, mi_const 65 1), (65, mi_bin 66 mb_isub), (66, mi_putf 69 4 19), (69, mi_iload 70 1), (70, mi_iret)]
def mt_X4_end : List (Nat × mv_F) := [(0, mi_aload 1 0), (1, mi_aload 2 0), (2, mi_getf 5 4 19), (5, mi_if 8 12 mb_ne mb_nne), (8, mi_const 9 1), (9, mi_goto 13), (12, mi_const 13 0), (13, mi_putf 16 4 0), (16, mi_aload 17 0), (17, mi_getf 20 4 0), (20, mi_if 23 27 mb_eq mb_neq), (23, mi_const 24 0), (24, mi_goto 31), (27, mi_aload 28 0), (28, mi_callv 31 kX4_endScope 1 4), (31, mi_iret)]
def mt_X4_close : List (Nat × mv_F) := [(0, mi_aload 1 0), (1, mi_const 2 0), (2, mi_putf 5 4 0), (5, mi_const 6 0), (6, mi_istore 7 1), (7, mi_aload 8 0), (8, mi_getf 11 4 19), (11, mi_if 14 24 mb_le mb_nle), (14, mi_iload 15 1), (15, mi_aload 16 0), (16, mi_callv 19 kX4_endScope 1 4), (19, mi_bin 20 mb_iadd), (20, mi_istore 21 1), (21, mi_goto 7), (24, mi_aload 25 0), (25, mi_getf 28 4 12), (28, mi_const 29 1), (29, mi_bin 30 mb_isub), (30, mi_istore 31 2), (31, mi_iload 32 2), (32, mi_if 35 67 mb_lt mb_nlt), (35, mi_aload 36 0), (36, mi_getf 39 4 16), (39, mi_iload 40 2), (40, mi_zald 41), (41, mi_if 44 61 mb_eq mb_neq), (44, mi_aload 45 0), (45, mi_getf 48 4 14), (48, mi_iload 49 2), (49, mi_iald 50), (50, mi_if 53 61 mb_ne mb_nne), (53, mi_aload 54 0), (54, mi_iload 55 2), (55, mi_callv 58 kX4_destroy 2 4), (58, mi_iinc 61 1 1), (61, mi_iinc 64 2 (-1)), (64, mi_goto 31), (67, mi_iload 68 1), (68, mi_iret)]
def mt_X4_instances : List (Nat × mv_F) := [(0, mi_aload 1 0), (1, mi_const 2 0), (2, mi_putf 5 4 0), (5, mi_aload 6 0), (6, mi_getf 9 4 12), (9, mi_iret)]
def mt_X4_componentOf : List (Nat × mv_F) := [(0, mi_aload 1 0), (1, mi_aload 2 0), (2, mi_iload 3 1), (3, mi_callv 6 kX4_isInstance 2 4), (6, mi_if 9 13 mb_eq mb_neq), (9, mi_const 10 0), (10, mi_goto 14), (13, mi_const 14 1), (14, mi_putf 17 4 0), (17, mi_aload 18 0), (18, mi_getf 21 4 0), (21, mi_if 24 28 mb_eq mb_neq), (24, mi_const 25 0), (25, mi_goto 34), (28, mi_aload 29 0), (29, mi_getf 32 4 13), (32, mi_iload 33 1), (33, mi_iald 34), (34, mi_iret)]
def mt_X4_isAlive : List (Nat × mv_F) := [(0, mi_aload 1 0), (1, mi_aload 2 0), (2, mi_iload 3 1), (3, mi_callv 6 kX4_isInstance 2 4), (6, mi_if 9 13 mb_eq mb_neq), (9, mi_const 10 0), (10, mi_goto 14), (13, mi_const 14 1), (14, mi_putf 17 4 0), (17, mi_aload 18 0), (18, mi_getf 21 4 0), (21, mi_if 24 37 mb_ne mb_nne), (24, mi_aload 25 0), (25, mi_getf 28 4 16), (28, mi_iload 29 1), (29, mi_zald 30), (30, mi_if 33 37 mb_eq mb_neq), (33, mi_const 34 1), (34, mi_goto 38), (37, mi_const 38 0), (38, mi_zret)]
def mt_X4_injected : List (Nat × mv_F) := [(0, mi_aload 1 0), (1, mi_aload 2 0), (2, mi_iload 3 1), (3, mi_callv 6 kX4_isInstance 2 4), (6, mi_if 9 13 mb_ne mb_nne), (9, mi_const 10 1), (10, mi_goto 34), (13, mi_iload 14 2), (14, mi_const 15 0), (15, mi_aload 16 0), (16, mi_getf 19 4 17), (19, mi_iload 20 1), (20, mi_iald 21), (21, mi_const 22 1), (22, mi_bin 23 mb_isub), (23, mi_calls 26 kX4_in 3), (26, mi_if 29 33 mb_ne mb_nne), (29, mi_const 30 2), (30, mi_goto 34), (33, mi_const 34 0), (34, mi_putf 37 4 0), (37, mi_aload 38 0), (38, mi_getf 41 4 0), (41, mi_if 44 48 mb_eq mb_neq), (44, mi_const 45 0), (45, mi_goto 59), (48, mi_aload 49 0), (49, mi_getf 52 4 18), (52, mi_const 54 6), (54, mi_iload 55 1), (55, mi_bin 56 mb_imul), (56, mi_iload 57 2), (57, mi_bin 58 mb_iadd), (58, mi_iald 59), (59, mi_iret)]
def mt_X4_event : List (Nat × mv_F) := [(0, mi_aload 1 0), (1, mi_const 2 0), (2, mi_putf 5 4 0), (5, mi_iload 6 1), (6, mi_const 7 (-1)), (7, mi_icmp 10 17 mc_ne mc_nne), (10, mi_aload 11 0), (11, mi_getf 14 4 20), (14, mi_goto 41), (17, mi_iload 18 1), (18, mi_const 19 0), (19, mi_aload 20 0), (20, mi_getf 23 4 20), (23, mi_const 24 1), (24, mi_bin 25 mb_isub), (25, mi_calls 28 kX4_in 3), (28, mi_if 31 40 mb_eq mb_neq), (31, mi_aload 32 0), (32, mi_getf 35 4 21), (35, mi_iload 36 1), (36, mi_iald 37), (37, mi_goto 41), (40, mi_const 41 (-1)), (41, mi_iret)]
def mt_X4_failureKind : List (Nat × mv_F) := [(0, mi_aload 1 0), (1, mi_const 2 0), (2, mi_putf 5 4 0), (5, mi_aload 6 0), (6, mi_getf 9 4 22), (9, mi_iret)]
def mt_X4_failureDetail : List (Nat × mv_F) := [(0, mi_aload 1 0), (1, mi_const 2 0), (2, mi_putf 5 4 0), (5, mi_aload 6 0), (6, mi_getf 9 4 23), (9, mi_iret)]
def mt_X4_failureChain : List (Nat × mv_F) := [(0, mi_aload 1 0), (1, mi_const 2 0), (2, mi_putf 5 4 0), (5, mi_iload 6 1), (6, mi_const 7 (-1)), (7, mi_icmp 10 17 mc_ne mc_nne), (10, mi_aload 11 0), (11, mi_getf 14 4 24), (14, mi_goto 41), (17, mi_iload 18 1), (18, mi_const 19 0), (19, mi_aload 20 0), (20, mi_getf 23 4 24), (23, mi_const 24 1), (24, mi_bin 25 mb_isub), (25, mi_calls 28 kX4_in 3), (28, mi_if 31 40 mb_eq mb_neq), (31, mi_aload 32 0), (32, mi_getf 35 4 25), (35, mi_iload 36 1), (36, mi_iald 37), (37, mi_goto 41), (40, mi_const 41 (-1)), (41, mi_iret)]
def mt_L_add : List (Nat × mv_F) := [(0, mi_aload 1 3), (1, mi_const 2 0), (2, mi_aload 3 0), (3, mi_iload 4 1), (4, mi_iload 5 2), (5, mi_callv 8 kX3_add 3 3), (8, mi_i2l 9), (9, mi_last 10), (10, mi_goto 21), (13, mi_astore 15 4), (15, mi_const 16 1), (16, mi_iret), (17, mi_astore 19 4), (19, mi_const 20 2), (20, mi_iret), (21, mi_const 22 0), (22, mi_iret)]
def mt_L_set : List (Nat × mv_F) := [(0, mi_aload 2 4), (2, mi_const 3 0), (3, mi_aload 4 0), (4, mi_iload 5 1), (5, mi_iload 6 2), (6, mi_iload 7 3), (7, mi_callv 10 kX3_set 4 3), (10, mi_i2l 11), (11, mi_last 12), (12, mi_goto 23), (15, mi_astore 17 5), (17, mi_const 18 1), (18, mi_iret), (19, mi_astore 21 5), (21, mi_const 22 2), (22, mi_iret), (23, mi_const 24 0), (24, mi_iret)]
def mt_L_property : List (Nat × mv_F) := [(0, mi_aload 1 3), (1, mi_const 2 0), (2, mi_aload 3 0), (3, mi_iload 4 1), (4, mi_iload 5 2), (5, mi_callv 8 kX3_property 3 3), (8, mi_i2l 9), (9, mi_last 10), (10, mi_goto 21), (13, mi_astore 15 4), (15, mi_const 16 1), (16, mi_iret), (17, mi_astore 19 4), (19, mi_const 20 2), (20, mi_iret), (21, mi_const 22 0), (22, mi_iret)]
def mt_L_depend : List (Nat × mv_F) := [(0, mi_aload 2 5), (2, mi_const 3 0), (3, mi_aload 4 0), (4, mi_iload 5 1), (5, mi_iload 6 2), (6, mi_iload 7 3), (7, mi_iload 9 4), (9, mi_callv 12 kX3_depend 5 3), (12, mi_i2l 13), (13, mi_last 14), (14, mi_goto 29), (17, mi_astore 19 6), (19, mi_const 20 1), (20, mi_iret), (21, mi_astore 23 6), (23, mi_const 24 2), (24, mi_iret), (25, mi_astore 27 6), (27, mi_const 28 3), (28, mi_iret), (29, mi_const 30 0), (30, mi_iret)]
def mt_L_clear : List (Nat × mv_F) := [(0, mi_aload 1 2), (1, mi_const 2 0), (2, mi_aload 3 0), (3, mi_iload 4 1), (4, mi_callv 7 kX3_clear 2 3), (7, mi_i2l 8), (8, mi_last 9), (9, mi_goto 15), (12, mi_astore 13 3), (13, mi_const 14 1), (14, mi_iret), (15, mi_const 16 0), (16, mi_iret)]
def mt_L_dependency : List (Nat × mv_F) := [(0, mi_aload 2 4), (2, mi_const 3 0), (3, mi_aload 4 0), (4, mi_iload 5 1), (5, mi_iload 6 2), (6, mi_iload 7 3), (7, mi_callv 10 kX3_dependency 4 3), (10, mi_i2l 11), (11, mi_last 12), (12, mi_goto 23), (15, mi_astore 17 5), (17, mi_const 18 1), (18, mi_iret), (19, mi_astore 21 5), (21, mi_const 22 2), (22, mi_iret), (23, mi_const 24 0), (24, mi_iret)]
def mt_L_profile : List (Nat × mv_F) := [(0, mi_aload 1 3), (1, mi_const 2 0), (2, mi_aload 3 0), (3, mi_iload 4 1), (4, mi_iload 5 2), (5, mi_callv 8 kX3_profile 3 3), (8, mi_if 11 15 mb_eq mb_neq), (11, mi_lconst 12 1), (12, mi_goto 16), (15, mi_lconst 16 0), (16, mi_last 17), (17, mi_goto 24), (20, mi_astore 22 4), (22, mi_const 23 1), (23, mi_iret), (24, mi_const 25 0), (25, mi_iret)]
def mt_L_candidates : List (Nat × mv_F) := [(0, mi_aload 1 3), (1, mi_const 2 0), (2, mi_aload 3 0), (3, mi_iload 4 1), (4, mi_iload 5 2), (5, mi_callv 8 kX3_candidates 3 3), (8, mi_i2l 9), (9, mi_last 10), (10, mi_goto 17), (13, mi_astore 15 4), (15, mi_const 16 1), (16, mi_iret), (17, mi_const 18 0), (18, mi_iret)]
def mt_L_chosen : List (Nat × mv_F) := [(0, mi_aload 1 3), (1, mi_const 2 0), (2, mi_aload 3 0), (3, mi_iload 4 1), (4, mi_iload 5 2), (5, mi_callv 8 kX3_chosen 3 3), (8, mi_i2l 9), (9, mi_last 10), (10, mi_goto 17), (13, mi_astore 15 4), (15, mi_const 16 1), (16, mi_iret), (17, mi_const 18 0), (18, mi_iret)]
def mt_L_problem : List (Nat × mv_F) := [(0, mi_aload 1 2), (1, mi_const 2 0), (2, mi_aload 3 0), (3, mi_iload 4 1), (4, mi_callv 7 kX3_problem 2 3), (7, mi_i2l 8), (8, mi_last 9), (9, mi_goto 15), (12, mi_astore 13 3), (13, mi_const 14 1), (14, mi_iret), (15, mi_const 16 0), (16, mi_iret)]
def mt_L_needs : List (Nat × mv_F) := [(0, mi_aload 1 2), (1, mi_const 2 0), (2, mi_aload 3 0), (3, mi_iload 4 1), (4, mi_callv 7 kX3_needs 2 3), (7, mi_i2l 8), (8, mi_last 9), (9, mi_goto 15), (12, mi_astore 13 3), (13, mi_const 14 1), (14, mi_iret), (15, mi_const 16 0), (16, mi_iret)]
def mt_L_resolve : List (Nat × mv_F) := [(0, mi_aload 1 3), (1, mi_const 2 0), (2, mi_aload 3 0), (3, mi_iload 4 1), (4, mi_iload 5 2), (5, mi_callv 8 kX3_resolve 3 3), (8, mi_i2l 9), (9, mi_last 10), (10, mi_goto 21), (13, mi_astore 15 4), (15, mi_const 16 1), (16, mi_iret), (17, mi_astore 19 4), (19, mi_const 20 2), (20, mi_iret), (21, mi_const 22 0), (22, mi_iret)]
def mt_L_provide : List (Nat × mv_F) := [(0, mi_aload 1 3), (1, mi_const 2 0), (2, mi_aload 3 0), (3, mi_iload 4 1), (4, mi_iload 5 2), (5, mi_callv 8 kX3_provide 3 3), (8, mi_i2l 9), (9, mi_last 10), (10, mi_goto 25), (13, mi_astore 15 4), (15, mi_const 16 1), (16, mi_iret), (17, mi_astore 19 4), (19, mi_const 20 2), (20, mi_iret), (21, mi_astore 23 4), (23, mi_const 24 3), (24, mi_iret), (25, mi_const 26 0), (26, mi_iret)]
def mt_L_start : List (Nat × mv_F) := [(0, mi_aload 1 1), (1, mi_const 2 0), (2, mi_aload 3 0), (3, mi_callv 6 kX3_start 1 3), (6, mi_i2l 7), (7, mi_last 8), (8, mi_goto 14), (11, mi_astore 12 2), (12, mi_const 13 1), (13, mi_iret), (14, mi_const 15 0), (15, mi_iret)]
def mt_L_begin : List (Nat × mv_F) := [(0, mi_aload 1 1), (1, mi_const 2 0), (2, mi_aload 3 0), (3, mi_callv 6 kX3_begin 1 3), (6, mi_i2l 7), (7, mi_last 8), (8, mi_goto 14), (11, mi_astore 12 2), (12, mi_const 13 1), (13, mi_iret), (14, mi_const 15 0), (15, mi_iret)]
def mt_L_end : List (Nat × mv_F) := [(0, mi_aload 1 1), (1, mi_const 2 0), (2, mi_aload 3 0), (3, mi_callv 6 kX3_end 1 3), (6, mi_i2l 7), (7, mi_last 8), (8, mi_goto 14), (11, mi_astore 12 2), (12, mi_const 13 1), (13, mi_iret), (14, mi_const 15 0), (15, mi_iret)]
def mt_L_componentOf : List (Nat × mv_F) := [(0, mi_aload 1 2), (1, mi_const 2 0), (2, mi_aload 3 0), (3, mi_iload 4 1), (4, mi_callv 7 kX3_componentOf 2 3), (7, mi_i2l 8), (8, mi_last 9), (9, mi_goto 15), (12, mi_astore 13 3), (13, mi_const 14 1), (14, mi_iret), (15, mi_const 16 0), (16, mi_iret)]
def mt_L_isAlive : List (Nat × mv_F) := [(0, mi_aload 1 2), (1, mi_const 2 0), (2, mi_aload 3 0), (3, mi_iload 4 1), (4, mi_callv 7 kX3_isAlive 2 3), (7, mi_if 10 14 mb_eq mb_neq), (10, mi_lconst 11 1), (11, mi_goto 15), (14, mi_lconst 15 0), (15, mi_last 16), (16, mi_goto 22), (19, mi_astore 20 3), (20, mi_const 21 1), (21, mi_iret), (22, mi_const 23 0), (23, mi_iret)]
def mt_L_injected : List (Nat × mv_F) := [(0, mi_aload 1 3), (1, mi_const 2 0), (2, mi_aload 3 0), (3, mi_iload 4 1), (4, mi_iload 5 2), (5, mi_callv 8 kX3_injected 3 3), (8, mi_i2l 9), (9, mi_last 10), (10, mi_goto 21), (13, mi_astore 15 4), (15, mi_const 16 1), (16, mi_iret), (17, mi_astore 19 4), (19, mi_const 20 2), (20, mi_iret), (21, mi_const 22 0), (22, mi_iret)]
def mt_L_law_0 : List (Nat × mv_F) := [(23, mi_iload 25 4), (25, mi_aload 26 0), (26, mi_alen 27), (27, mi_const 28 5), (28, mi_bin 29 mb_isub), (29, mi_icmp 32 1515 mc_gt mc_ngt), (32, mi_aload 33 0), (33, mi_iload 35 4), (35, mi_iald 36), (36, mi_const 38 31), (38, mi_bin 39 mb_iand), (39, mi_tsw [(0, 156), (1, 224), (2, 304), (3, 372), (4, 464), (5, 520), (6, 600), (7, 691), (8, 704), (9, 772), (10, 840), (11, 896), (12, 952), (13, 1020), (14, 1088), (15, 1132), (16, 1176), (17, 1220), (18, 1233), (19, 1246), (20, 1302), (21, 1365), (22, 1433), (23, 1458), (24, 1471), (25, 1484)] 25 1509), (156, mi_aload 157 1), (157, mi_aload 158 0), (158, mi_iload 160 4), (160, mi_const 161 1), (161, mi_bin 162 mb_iadd), (162, mi_iald 163), (163, mi_aload 164 0), (164, mi_iload 166 4), (166, mi_const 167 2), (167, mi_bin 168 mb_iadd), (168, mi_iald 169), (169, mi_aload 170 3), (170, mi_calls 173 kL_add 4), (173, mi_istore 175 5), (175, mi_aload 176 2), (176, mi_aload 177 0), (177, mi_iload 179 4), (179, mi_const 180 1), (180, mi_bin 181 mb_iadd), (181, mi_iald 182), (182, mi_aload 183 0), (183, mi_iload 185 4), (185, mi_const 186 2), (186, mi_bin 187 mb_iadd), (187, mi_iald 188), (188, mi_callv 191 kX4_add 3 4), (191, mi_istore 193 6), (193, mi_aload 194 2), (194, mi_callv 197 kX4_thrown 1 4), (197, mi_iload 199 5), (199, mi_icmp 202 204 mc_eq mc_neq), (202, mi_const 203 0), (203, mi_zret), (204, mi_iload 206 5), (206, mi_if 209 221 mb_ne mb_nne), (209, mi_aload 210 3), (210, mi_const 211 0), (211, mi_lald 212), (212, mi_iload 214 6), (214, mi_i2l 215), (215, mi_lcmp 216), (216, mi_if 219 221 mb_eq mb_neq), (219, mi_const 220 0), (220, mi_zret), (221, mi_goto 1509), (224, mi_aload 225 1), (225, mi_aload 226 0), (226, mi_iload 228 4), (228, mi_const 229 1), (229, mi_bin 230 mb_iadd), (230, mi_iald 231), (231, mi_aload 232 0), (232, mi_iload 234 4), (234, mi_const 235 2), (235, mi_bin 236 mb_iadd), (236, mi_iald 237), (237, mi_aload 238 0), (238, mi_iload 240 4), (240, mi_const 241 3), (241, mi_bin 242 mb_iadd), (242, mi_iald 243), (243, mi_aload 244 3), (244, mi_calls 247 kL_set 5), (247, mi_istore 249 5), (249, mi_aload 250 2), (250, mi_aload 251 0), (251, mi_iload 253 4), (253, mi_const 254 1), (254, mi_bin 255 mb_iadd), (255, mi_iald 256), (256, mi_aload 257 0), (257, mi_iload 259 4), (259, mi_const 260 2), (260, mi_bin 261 mb_iadd), (261, mi_iald 262), (262, mi_aload 263 0), (263, mi_iload 265 4), (265, mi_const 266 3), (266, mi_bin 267 mb_iadd), (267, mi_iald 268), (268, mi_callv 271 kX4_set 4 4), (271, mi_istore 273 6), (273, mi_aload 274 2), (274, mi_callv 277 kX4_thrown 1 4), (277, mi_iload 279 5), (279, mi_icmp 282 284 mc_eq mc_neq), (282, mi_const 283 0), (283, mi_zret)]
def mt_L_law_1 : List (Nat × mv_F) := [(284, mi_iload 286 5), (286, mi_if 289 301 mb_ne mb_nne), (289, mi_aload 290 3), (290, mi_const 291 0), (291, mi_lald 292), (292, mi_iload 294 6), (294, mi_i2l 295), (295, mi_lcmp 296), (296, mi_if 299 301 mb_eq mb_neq), (299, mi_const 300 0), (300, mi_zret), (301, mi_goto 1509), (304, mi_aload 305 1), (305, mi_aload 306 0), (306, mi_iload 308 4), (308, mi_const 309 1), (309, mi_bin 310 mb_iadd), (310, mi_iald 311), (311, mi_aload 312 0), (312, mi_iload 314 4), (314, mi_const 315 2), (315, mi_bin 316 mb_iadd), (316, mi_iald 317), (317, mi_aload 318 3), (318, mi_calls 321 kL_property 4), (321, mi_istore 323 5), (323, mi_aload 324 2), (324, mi_aload 325 0), (325, mi_iload 327 4), (327, mi_const 328 1), (328, mi_bin 329 mb_iadd), (329, mi_iald 330), (330, mi_aload 331 0), (331, mi_iload 333 4), (333, mi_const 334 2), (334, mi_bin 335 mb_iadd), (335, mi_iald 336), (336, mi_callv 339 kX4_property 3 4), (339, mi_istore 341 6), (341, mi_aload 342 2), (342, mi_callv 345 kX4_thrown 1 4), (345, mi_iload 347 5), (347, mi_icmp 350 352 mc_eq mc_neq), (350, mi_const 351 0), (351, mi_zret), (352, mi_iload 354 5), (354, mi_if 357 369 mb_ne mb_nne), (357, mi_aload 358 3), (358, mi_const 359 0), (359, mi_lald 360), (360, mi_iload 362 6), (362, mi_i2l 363), (363, mi_lcmp 364), (364, mi_if 367 369 mb_eq mb_neq), (367, mi_const 368 0), (368, mi_zret), (369, mi_goto 1509), (372, mi_aload 373 1), (373, mi_aload 374 0), (374, mi_iload 376 4), (376, mi_const 377 1), (377, mi_bin 378 mb_iadd), (378, mi_iald 379), (379, mi_aload 380 0), (380, mi_iload 382 4), (382, mi_const 383 2), (383, mi_bin 384 mb_iadd), (384, mi_iald 385), (385, mi_aload 386 0), (386, mi_iload 388 4), (388, mi_const 389 3), (389, mi_bin 390 mb_iadd), (390, mi_iald 391), (391, mi_aload 392 0), (392, mi_iload 394 4), (394, mi_const 395 4), (395, mi_bin 396 mb_iadd), (396, mi_iald 397), (397, mi_aload 398 3), (398, mi_calls 401 kL_depend 6), (401, mi_istore 403 5), (403, mi_aload 404 2), (404, mi_aload 405 0), (405, mi_iload 407 4), (407, mi_const 408 1), (408, mi_bin 409 mb_iadd), (409, mi_iald 410), (410, mi_aload 411 0), (411, mi_iload 413 4), (413, mi_const 414 2), (414, mi_bin 415 mb_iadd), (415, mi_iald 416), (416, mi_aload 417 0), (417, mi_iload 419 4), (419, mi_const 420 3), (420, mi_bin 421 mb_iadd), (421, mi_iald 422), (422, mi_aload 423 0), (423, mi_iload 425 4), (425, mi_const 426 4)]
def mt_L_law_2 : List (Nat × mv_F) := [(426, mi_bin 427 mb_iadd), (427, mi_iald 428), (428, mi_callv 431 kX4_depend 5 4), (431, mi_istore 433 6), (433, mi_aload 434 2), (434, mi_callv 437 kX4_thrown 1 4), (437, mi_iload 439 5), (439, mi_icmp 442 444 mc_eq mc_neq), (442, mi_const 443 0), (443, mi_zret), (444, mi_iload 446 5), (446, mi_if 449 461 mb_ne mb_nne), (449, mi_aload 450 3), (450, mi_const 451 0), (451, mi_lald 452), (452, mi_iload 454 6), (454, mi_i2l 455), (455, mi_lcmp 456), (456, mi_if 459 461 mb_eq mb_neq), (459, mi_const 460 0), (460, mi_zret), (461, mi_goto 1509), (464, mi_aload 465 1), (465, mi_aload 466 0), (466, mi_iload 468 4), (468, mi_const 469 1), (469, mi_bin 470 mb_iadd), (470, mi_iald 471), (471, mi_aload 472 3), (472, mi_calls 475 kL_clear 3), (475, mi_istore 477 5), (477, mi_aload 478 2), (478, mi_aload 479 0), (479, mi_iload 481 4), (481, mi_const 482 1), (482, mi_bin 483 mb_iadd), (483, mi_iald 484), (484, mi_callv 487 kX4_clear 2 4), (487, mi_istore 489 6), (489, mi_aload 490 2), (490, mi_callv 493 kX4_thrown 1 4), (493, mi_iload 495 5), (495, mi_icmp 498 500 mc_eq mc_neq), (498, mi_const 499 0), (499, mi_zret), (500, mi_iload 502 5), (502, mi_if 505 517 mb_ne mb_nne), (505, mi_aload 506 3), (506, mi_const 507 0), (507, mi_lald 508), (508, mi_iload 510 6), (510, mi_i2l 511), (511, mi_lcmp 512), (512, mi_if 515 517 mb_eq mb_neq), (515, mi_const 516 0), (516, mi_zret), (517, mi_goto 1509), (520, mi_aload 521 1), (521, mi_aload 522 0), (522, mi_iload 524 4), (524, mi_const 525 1), (525, mi_bin 526 mb_iadd), (526, mi_iald 527), (527, mi_aload 528 0), (528, mi_iload 530 4), (530, mi_const 531 2), (531, mi_bin 532 mb_iadd), (532, mi_iald 533), (533, mi_aload 534 0), (534, mi_iload 536 4), (536, mi_const 537 3), (537, mi_bin 538 mb_iadd), (538, mi_iald 539), (539, mi_aload 540 3), (540, mi_calls 543 kL_dependency 5), (543, mi_istore 545 5), (545, mi_aload 546 2), (546, mi_aload 547 0), (547, mi_iload 549 4), (549, mi_const 550 1), (550, mi_bin 551 mb_iadd), (551, mi_iald 552), (552, mi_aload 553 0), (553, mi_iload 555 4), (555, mi_const 556 2), (556, mi_bin 557 mb_iadd), (557, mi_iald 558), (558, mi_aload 559 0), (559, mi_iload 561 4), (561, mi_const 562 3), (562, mi_bin 563 mb_iadd), (563, mi_iald 564), (564, mi_callv 567 kX4_dependency 4 4), (567, mi_istore 569 6), (569, mi_aload 570 2), (570, mi_callv 573 kX4_thrown 1 4), (573, mi_iload 575 5), (575, mi_icmp 578 580 mc_eq mc_neq), (578, mi_const 579 0), (579, mi_zret)]
def mt_L_law_3 : List (Nat × mv_F) := [(580, mi_iload 582 5), (582, mi_if 585 597 mb_ne mb_nne), (585, mi_aload 586 3), (586, mi_const 587 0), (587, mi_lald 588), (588, mi_iload 590 6), (590, mi_i2l 591), (591, mi_lcmp 592), (592, mi_if 595 597 mb_eq mb_neq), (595, mi_const 596 0), (596, mi_zret), (597, mi_goto 1509), (600, mi_aload 601 1), (601, mi_aload 602 0), (602, mi_iload 604 4), (604, mi_const 605 1), (605, mi_bin 606 mb_iadd), (606, mi_iald 607), (607, mi_aload 608 0), (608, mi_iload 610 4), (610, mi_const 611 2), (611, mi_bin 612 mb_iadd), (612, mi_iald 613), (613, mi_if 616 620 mb_eq mb_neq), (616, mi_const 617 1), (617, mi_goto 621), (620, mi_const 621 0), (621, mi_aload 622 3), (622, mi_calls 625 kL_profile 4), (625, mi_istore 627 5), (627, mi_aload 628 2), (628, mi_aload 629 0), (629, mi_iload 631 4), (631, mi_const 632 1), (632, mi_bin 633 mb_iadd), (633, mi_iald 634), (634, mi_aload 635 0), (635, mi_iload 637 4), (637, mi_const 638 2), (638, mi_bin 639 mb_iadd), (639, mi_iald 640), (640, mi_if 643 647 mb_eq mb_neq), (643, mi_const 644 1), (644, mi_goto 648), (647, mi_const 648 0), (648, mi_callv 651 kX4_profile 3 4), (651, mi_istore 653 6), (653, mi_aload 654 2), (654, mi_callv 657 kX4_thrown 1 4), (657, mi_iload 659 5), (659, mi_icmp 662 664 mc_eq mc_neq), (662, mi_const 663 0), (663, mi_zret), (664, mi_iload 666 5), (666, mi_if 669 688 mb_ne mb_nne), (669, mi_aload 670 3), (670, mi_const 671 0), (671, mi_lald 672), (672, mi_iload 674 6), (674, mi_if 677 681 mb_eq mb_neq), (677, mi_lconst 678 1), (678, mi_goto 682), (681, mi_lconst 682 0), (682, mi_lcmp 683), (683, mi_if 686 688 mb_eq mb_neq), (686, mi_const 687 0), (687, mi_zret), (688, mi_goto 1509), (691, mi_aload 692 1), (692, mi_callv 695 kX3_components 1 3), (695, mi_aload 696 2), (696, mi_callv 699 kX4_components 1 4), (699, mi_icmp 702 1509 mc_eq mc_neq), (702, mi_const 703 0), (703, mi_zret), (704, mi_aload 705 1), (705, mi_aload 706 0), (706, mi_iload 708 4), (708, mi_const 709 1), (709, mi_bin 710 mb_iadd), (710, mi_iald 711), (711, mi_aload 712 0), (712, mi_iload 714 4), (714, mi_const 715 2), (715, mi_bin 716 mb_iadd), (716, mi_iald 717), (717, mi_aload 718 3), (718, mi_calls 721 kL_candidates 4), (721, mi_istore 723 5), (723, mi_aload 724 2), (724, mi_aload 725 0), (725, mi_iload 727 4), (727, mi_const 728 1), (728, mi_bin 729 mb_iadd), (729, mi_iald 730), (730, mi_aload 731 0), (731, mi_iload 733 4), (733, mi_const 734 2), (734, mi_bin 735 mb_iadd), (735, mi_iald 736)]
def mt_L_law_4 : List (Nat × mv_F) := [(736, mi_callv 739 kX4_candidates 3 4), (739, mi_istore 741 6), (741, mi_aload 742 2), (742, mi_callv 745 kX4_thrown 1 4), (745, mi_iload 747 5), (747, mi_icmp 750 752 mc_eq mc_neq), (750, mi_const 751 0), (751, mi_zret), (752, mi_iload 754 5), (754, mi_if 757 769 mb_ne mb_nne), (757, mi_aload 758 3), (758, mi_const 759 0), (759, mi_lald 760), (760, mi_iload 762 6), (762, mi_i2l 763), (763, mi_lcmp 764), (764, mi_if 767 769 mb_eq mb_neq), (767, mi_const 768 0), (768, mi_zret), (769, mi_goto 1509), (772, mi_aload 773 1), (773, mi_aload 774 0), (774, mi_iload 776 4), (776, mi_const 777 1), (777, mi_bin 778 mb_iadd), (778, mi_iald 779), (779, mi_aload 780 0), (780, mi_iload 782 4), (782, mi_const 783 2), (783, mi_bin 784 mb_iadd), (784, mi_iald 785), (785, mi_aload 786 3), (786, mi_calls 789 kL_chosen 4), (789, mi_istore 791 5), (791, mi_aload 792 2), (792, mi_aload 793 0), (793, mi_iload 795 4), (795, mi_const 796 1), (796, mi_bin 797 mb_iadd), (797, mi_iald 798), (798, mi_aload 799 0), (799, mi_iload 801 4), (801, mi_const 802 2), (802, mi_bin 803 mb_iadd), (803, mi_iald 804), (804, mi_callv 807 kX4_chosen 3 4), (807, mi_istore 809 6), (809, mi_aload 810 2), (810, mi_callv 813 kX4_thrown 1 4), (813, mi_iload 815 5), (815, mi_icmp 818 820 mc_eq mc_neq), (818, mi_const 819 0), (819, mi_zret), (820, mi_iload 822 5), (822, mi_if 825 837 mb_ne mb_nne), (825, mi_aload 826 3), (826, mi_const 827 0), (827, mi_lald 828), (828, mi_iload 830 6), (830, mi_i2l 831), (831, mi_lcmp 832), (832, mi_if 835 837 mb_eq mb_neq), (835, mi_const 836 0), (836, mi_zret), (837, mi_goto 1509), (840, mi_aload 841 1), (841, mi_aload 842 0), (842, mi_iload 844 4), (844, mi_const 845 1), (845, mi_bin 846 mb_iadd), (846, mi_iald 847), (847, mi_aload 848 3), (848, mi_calls 851 kL_problem 3), (851, mi_istore 853 5), (853, mi_aload 854 2), (854, mi_aload 855 0), (855, mi_iload 857 4), (857, mi_const 858 1), (858, mi_bin 859 mb_iadd), (859, mi_iald 860), (860, mi_callv 863 kX4_problem 2 4), (863, mi_istore 865 6), (865, mi_aload 866 2), (866, mi_callv 869 kX4_thrown 1 4), (869, mi_iload 871 5), (871, mi_icmp 874 876 mc_eq mc_neq), (874, mi_const 875 0), (875, mi_zret), (876, mi_iload 878 5), (878, mi_if 881 893 mb_ne mb_nne), (881, mi_aload 882 3), (882, mi_const 883 0), (883, mi_lald 884), (884, mi_iload 886 6), (886, mi_i2l 887), (887, mi_lcmp 888), (888, mi_if 891 893 mb_eq mb_neq), (891, mi_const 892 0), (892, mi_zret), (893, mi_goto 1509)]
def mt_L_law_5 : List (Nat × mv_F) := [(896, mi_aload 897 1), (897, mi_aload 898 0), (898, mi_iload 900 4), (900, mi_const 901 1), (901, mi_bin 902 mb_iadd), (902, mi_iald 903), (903, mi_aload 904 3), (904, mi_calls 907 kL_needs 3), (907, mi_istore 909 5), (909, mi_aload 910 2), (910, mi_aload 911 0), (911, mi_iload 913 4), (913, mi_const 914 1), (914, mi_bin 915 mb_iadd), (915, mi_iald 916), (916, mi_callv 919 kX4_needs 2 4), (919, mi_istore 921 6), (921, mi_aload 922 2), (922, mi_callv 925 kX4_thrown 1 4), (925, mi_iload 927 5), (927, mi_icmp 930 932 mc_eq mc_neq), (930, mi_const 931 0), (931, mi_zret), (932, mi_iload 934 5), (934, mi_if 937 949 mb_ne mb_nne), (937, mi_aload 938 3), (938, mi_const 939 0), (939, mi_lald 940), (940, mi_iload 942 6), (942, mi_i2l 943), (943, mi_lcmp 944), (944, mi_if 947 949 mb_eq mb_neq), (947, mi_const 948 0), (948, mi_zret), (949, mi_goto 1509), (952, mi_aload 953 1), (953, mi_aload 954 0), (954, mi_iload 956 4), (956, mi_const 957 1), (957, mi_bin 958 mb_iadd), (958, mi_iald 959), (959, mi_aload 960 0), (960, mi_iload 962 4), (962, mi_const 963 2), (963, mi_bin 964 mb_iadd), (964, mi_iald 965), (965, mi_aload 966 3), (966, mi_calls 969 kL_resolve 4), (969, mi_istore 971 5), (971, mi_aload 972 2), (972, mi_aload 973 0), (973, mi_iload 975 4), (975, mi_const 976 1), (976, mi_bin 977 mb_iadd), (977, mi_iald 978), (978, mi_aload 979 0), (979, mi_iload 981 4), (981, mi_const 982 2), (982, mi_bin 983 mb_iadd), (983, mi_iald 984), (984, mi_callv 987 kX4_resolve 3 4), (987, mi_istore 989 6), (989, mi_aload 990 2), (990, mi_callv 993 kX4_thrown 1 4), (993, mi_iload 995 5), (995, mi_icmp 998 1000 mc_eq mc_neq), (998, mi_const 999 0), (999, mi_zret), (1000, mi_iload 1002 5), (1002, mi_if 1005 1017 mb_ne mb_nne), (1005, mi_aload 1006 3), (1006, mi_const 1007 0), (1007, mi_lald 1008), (1008, mi_iload 1010 6), (1010, mi_i2l 1011), (1011, mi_lcmp 1012), (1012, mi_if 1015 1017 mb_eq mb_neq), (1015, mi_const 1016 0), (1016, mi_zret), (1017, mi_goto 1509), (1020, mi_aload 1021 1), (1021, mi_aload 1022 0), (1022, mi_iload 1024 4), (1024, mi_const 1025 1), (1025, mi_bin 1026 mb_iadd), (1026, mi_iald 1027), (1027, mi_aload 1028 0), (1028, mi_iload 1030 4), (1030, mi_const 1031 2), (1031, mi_bin 1032 mb_iadd), (1032, mi_iald 1033), (1033, mi_aload 1034 3), (1034, mi_calls 1037 kL_provide 4), (1037, mi_istore 1039 5), (1039, mi_aload 1040 2), (1040, mi_aload 1041 0), (1041, mi_iload 1043 4), (1043, mi_const 1044 1), (1044, mi_bin 1045 mb_iadd), (1045, mi_iald 1046)]
def mt_L_law_6 : List (Nat × mv_F) := [(1046, mi_aload 1047 0), (1047, mi_iload 1049 4), (1049, mi_const 1050 2), (1050, mi_bin 1051 mb_iadd), (1051, mi_iald 1052), (1052, mi_callv 1055 kX4_provide 3 4), (1055, mi_istore 1057 6), (1057, mi_aload 1058 2), (1058, mi_callv 1061 kX4_thrown 1 4), (1061, mi_iload 1063 5), (1063, mi_icmp 1066 1068 mc_eq mc_neq), (1066, mi_const 1067 0), (1067, mi_zret), (1068, mi_iload 1070 5), (1070, mi_if 1073 1085 mb_ne mb_nne), (1073, mi_aload 1074 3), (1074, mi_const 1075 0), (1075, mi_lald 1076), (1076, mi_iload 1078 6), (1078, mi_i2l 1079), (1079, mi_lcmp 1080), (1080, mi_if 1083 1085 mb_eq mb_neq), (1083, mi_const 1084 0), (1084, mi_zret), (1085, mi_goto 1509), (1088, mi_aload 1089 1), (1089, mi_aload 1090 3), (1090, mi_calls 1093 kL_start 2), (1093, mi_istore 1095 5), (1095, mi_aload 1096 2), (1096, mi_callv 1099 kX4_start 1 4), (1099, mi_istore 1101 6), (1101, mi_aload 1102 2), (1102, mi_callv 1105 kX4_thrown 1 4), (1105, mi_iload 1107 5), (1107, mi_icmp 1110 1112 mc_eq mc_neq), (1110, mi_const 1111 0), (1111, mi_zret), (1112, mi_iload 1114 5), (1114, mi_if 1117 1129 mb_ne mb_nne), (1117, mi_aload 1118 3), (1118, mi_const 1119 0), (1119, mi_lald 1120), (1120, mi_iload 1122 6), (1122, mi_i2l 1123), (1123, mi_lcmp 1124), (1124, mi_if 1127 1129 mb_eq mb_neq), (1127, mi_const 1128 0), (1128, mi_zret), (1129, mi_goto 1509), (1132, mi_aload 1133 1), (1133, mi_aload 1134 3), (1134, mi_calls 1137 kL_begin 2), (1137, mi_istore 1139 5), (1139, mi_aload 1140 2), (1140, mi_callv 1143 kX4_begin 1 4), (1143, mi_istore 1145 6), (1145, mi_aload 1146 2), (1146, mi_callv 1149 kX4_thrown 1 4), (1149, mi_iload 1151 5), (1151, mi_icmp 1154 1156 mc_eq mc_neq), (1154, mi_const 1155 0), (1155, mi_zret), (1156, mi_iload 1158 5), (1158, mi_if 1161 1173 mb_ne mb_nne), (1161, mi_aload 1162 3), (1162, mi_const 1163 0), (1163, mi_lald 1164), (1164, mi_iload 1166 6), (1166, mi_i2l 1167), (1167, mi_lcmp 1168), (1168, mi_if 1171 1173 mb_eq mb_neq), (1171, mi_const 1172 0), (1172, mi_zret), (1173, mi_goto 1509), (1176, mi_aload 1177 1), (1177, mi_aload 1178 3), (1178, mi_calls 1181 kL_end 2), (1181, mi_istore 1183 5), (1183, mi_aload 1184 2), (1184, mi_callv 1187 kX4_end 1 4), (1187, mi_istore 1189 6), (1189, mi_aload 1190 2), (1190, mi_callv 1193 kX4_thrown 1 4), (1193, mi_iload 1195 5), (1195, mi_icmp 1198 1200 mc_eq mc_neq), (1198, mi_const 1199 0), (1199, mi_zret), (1200, mi_iload 1202 5), (1202, mi_if 1205 1217 mb_ne mb_nne), (1205, mi_aload 1206 3), (1206, mi_const 1207 0), (1207, mi_lald 1208), (1208, mi_iload 1210 6), (1210, mi_i2l 1211), (1211, mi_lcmp 1212), (1212, mi_if 1215 1217 mb_eq mb_neq), (1215, mi_const 1216 0), (1216, mi_zret), (1217, mi_goto 1509)]
def mt_L_law_7 : List (Nat × mv_F) := [(1220, mi_aload 1221 1), (1221, mi_callv 1224 kX3_close 1 3), (1224, mi_aload 1225 2), (1225, mi_callv 1228 kX4_close 1 4), (1228, mi_icmp 1231 1509 mc_eq mc_neq), (1231, mi_const 1232 0), (1232, mi_zret), (1233, mi_aload 1234 1), (1234, mi_callv 1237 kX3_instances 1 3), (1237, mi_aload 1238 2), (1238, mi_callv 1241 kX4_instances 1 4), (1241, mi_icmp 1244 1509 mc_eq mc_neq), (1244, mi_const 1245 0), (1245, mi_zret), (1246, mi_aload 1247 1), (1247, mi_aload 1248 0), (1248, mi_iload 1250 4), (1250, mi_const 1251 1), (1251, mi_bin 1252 mb_iadd), (1252, mi_iald 1253), (1253, mi_aload 1254 3), (1254, mi_calls 1257 kL_componentOf 3), (1257, mi_istore 1259 5), (1259, mi_aload 1260 2), (1260, mi_aload 1261 0), (1261, mi_iload 1263 4), (1263, mi_const 1264 1), (1264, mi_bin 1265 mb_iadd), (1265, mi_iald 1266), (1266, mi_callv 1269 kX4_componentOf 2 4), (1269, mi_istore 1271 6), (1271, mi_aload 1272 2), (1272, mi_callv 1275 kX4_thrown 1 4), (1275, mi_iload 1277 5), (1277, mi_icmp 1280 1282 mc_eq mc_neq), (1280, mi_const 1281 0), (1281, mi_zret), (1282, mi_iload 1284 5), (1284, mi_if 1287 1299 mb_ne mb_nne), (1287, mi_aload 1288 3), (1288, mi_const 1289 0), (1289, mi_lald 1290), (1290, mi_iload 1292 6), (1292, mi_i2l 1293), (1293, mi_lcmp 1294), (1294, mi_if 1297 1299 mb_eq mb_neq), (1297, mi_const 1298 0), (1298, mi_zret), (1299, mi_goto 1509), (1302, mi_aload 1303 1), (1303, mi_aload 1304 0), (1304, mi_iload 1306 4), (1306, mi_const 1307 1), (1307, mi_bin 1308 mb_iadd), (1308, mi_iald 1309), (1309, mi_aload 1310 3), (1310, mi_calls 1313 kL_isAlive 3), (1313, mi_istore 1315 5), (1315, mi_aload 1316 2), (1316, mi_aload 1317 0), (1317, mi_iload 1319 4), (1319, mi_const 1320 1), (1320, mi_bin 1321 mb_iadd), (1321, mi_iald 1322), (1322, mi_callv 1325 kX4_isAlive 2 4), (1325, mi_istore 1327 6), (1327, mi_aload 1328 2), (1328, mi_callv 1331 kX4_thrown 1 4), (1331, mi_iload 1333 5), (1333, mi_icmp 1336 1338 mc_eq mc_neq), (1336, mi_const 1337 0), (1337, mi_zret), (1338, mi_iload 1340 5), (1340, mi_if 1343 1362 mb_ne mb_nne), (1343, mi_aload 1344 3), (1344, mi_const 1345 0), (1345, mi_lald 1346), (1346, mi_iload 1348 6), (1348, mi_if 1351 1355 mb_eq mb_neq), (1351, mi_lconst 1352 1), (1352, mi_goto 1356), (1355, mi_lconst 1356 0), (1356, mi_lcmp 1357), (1357, mi_if 1360 1362 mb_eq mb_neq), (1360, mi_const 1361 0), (1361, mi_zret), (1362, mi_goto 1509), (1365, mi_aload 1366 1), (1366, mi_aload 1367 0), (1367, mi_iload 1369 4), (1369, mi_const 1370 1), (1370, mi_bin 1371 mb_iadd), (1371, mi_iald 1372), (1372, mi_aload 1373 0), (1373, mi_iload 1375 4), (1375, mi_const 1376 2), (1376, mi_bin 1377 mb_iadd), (1377, mi_iald 1378), (1378, mi_aload 1379 3), (1379, mi_calls 1382 kL_injected 4)]
def mt_L_law_8 : List (Nat × mv_F) := [(1382, mi_istore 1384 5), (1384, mi_aload 1385 2), (1385, mi_aload 1386 0), (1386, mi_iload 1388 4), (1388, mi_const 1389 1), (1389, mi_bin 1390 mb_iadd), (1390, mi_iald 1391), (1391, mi_aload 1392 0), (1392, mi_iload 1394 4), (1394, mi_const 1395 2), (1395, mi_bin 1396 mb_iadd), (1396, mi_iald 1397), (1397, mi_callv 1400 kX4_injected 3 4), (1400, mi_istore 1402 6), (1402, mi_aload 1403 2), (1403, mi_callv 1406 kX4_thrown 1 4), (1406, mi_iload 1408 5), (1408, mi_icmp 1411 1413 mc_eq mc_neq), (1411, mi_const 1412 0), (1412, mi_zret), (1413, mi_iload 1415 5), (1415, mi_if 1418 1430 mb_ne mb_nne), (1418, mi_aload 1419 3), (1419, mi_const 1420 0), (1420, mi_lald 1421), (1421, mi_iload 1423 6), (1423, mi_i2l 1424), (1424, mi_lcmp 1425), (1425, mi_if 1428 1430 mb_eq mb_neq), (1428, mi_const 1429 0), (1429, mi_zret), (1430, mi_goto 1509), (1433, mi_aload 1434 1), (1434, mi_aload 1435 0), (1435, mi_iload 1437 4), (1437, mi_const 1438 1), (1438, mi_bin 1439 mb_iadd), (1439, mi_iald 1440), (1440, mi_callv 1443 kX3_event 2 3), (1443, mi_aload 1444 2), (1444, mi_aload 1445 0), (1445, mi_iload 1447 4), (1447, mi_const 1448 1), (1448, mi_bin 1449 mb_iadd), (1449, mi_iald 1450), (1450, mi_callv 1453 kX4_event 2 4), (1453, mi_icmp 1456 1509 mc_eq mc_neq), (1456, mi_const 1457 0), (1457, mi_zret), (1458, mi_aload 1459 1), (1459, mi_callv 1462 kX3_failureKind 1 3), (1462, mi_aload 1463 2), (1463, mi_callv 1466 kX4_failureKind 1 4), (1466, mi_icmp 1469 1509 mc_eq mc_neq), (1469, mi_const 1470 0), (1470, mi_zret), (1471, mi_aload 1472 1), (1472, mi_callv 1475 kX3_failureDetail 1 3), (1475, mi_aload 1476 2), (1476, mi_callv 1479 kX4_failureDetail 1 4), (1479, mi_icmp 1482 1509 mc_eq mc_neq), (1482, mi_const 1483 0), (1483, mi_zret), (1484, mi_aload 1485 1), (1485, mi_aload 1486 0), (1486, mi_iload 1488 4), (1488, mi_const 1489 1), (1489, mi_bin 1490 mb_iadd), (1490, mi_iald 1491), (1491, mi_callv 1494 kX3_failureChain 2 3), (1494, mi_aload 1495 2), (1495, mi_aload 1496 0), (1496, mi_iload 1498 4), (1498, mi_const 1499 1), (1499, mi_bin 1500 mb_iadd), (1500, mi_iald 1501), (1501, mi_callv 1504 kX4_failureChain 2 4), (1504, mi_icmp 1507 1509 mc_eq mc_neq), (1507, mi_const 1508 0), (1508, mi_zret), (1509, mi_iinc 1512 4 5), (1512, mi_goto 23), (1515, mi_const 1516 1), (1516, mi_zret)]
def mt_L_law : List (Nat × mv_F) := mt_L_law_0 ++ (mt_L_law_1 ++ (mt_L_law_2 ++ (mt_L_law_3 ++ (mt_L_law_4 ++ (mt_L_law_5 ++ (mt_L_law_6 ++ (mt_L_law_7 ++ (mt_L_law_8))))))))
def mv_tabs : List (List (Nat × mv_F)) := [mt_X0_append, mt_X0_appendDependency, mt_X0_hasDependency, mt_X0_partOf, mt_X0_turnProfile, mt_X0_isActive, mt_X0_isStarted, mt_X0_provides, mt_X0_candidateMask, mt_X0_candidatesFor, mt_X0_choiceAmong, mt_X0_singleIn, mt_X0_primaryMask, mt_X0_directNeeds, mt_X0_needsOfDependency, mt_X0_allNeeds, mt_X1_remember, mt_X2_append, mt_X2_hasInjection, mt_X2_destroyAllIn, mt_X2_destroyPrototypesFrom, mt_X2_destroyFrom, mt_X2_destroy, mt_X2_recordEvent, mt_X3_add, mt_X3_set, mt_X3_property, mt_X3_depend, mt_X3_clear, mt_X3_dependency, mt_X3_profile, mt_X3_components, mt_X3_candidates, mt_X3_chosen, mt_X3_problem, mt_X3_needs, mt_X3_resolve, mt_X3_provide, mt_X3_start, mt_X3_begin, mt_X3_end, mt_X3_close, mt_X3_instances, mt_X3_componentOf, mt_X3_isAlive, mt_X3_injected, mt_X3_event, mt_X3_failureKind, mt_X3_failureDetail, mt_X3_failureChain, mt_X3_isBetween, mt_X3_isPropertyValue, mt_X3_requireComponent, mt_X3_requireInstance, mt_X3_requireProperty, mt_X3_requireTypeAndQualifier, mt_X3_tryConstruction, mt_X3_tryDependency, mt_X3_tryEach, mt_X3_requestOrThrow, mt_X3_request, mt_X3_obtain, mt_X3_construct, mt_X3_isUnderConstruction, mt_X3_inject, mt_X3_obtainEach, mt_X3_complete, mt_X3_recordFailure, mt_X3_closeInnermostScope, mt_X3_isIn, mt_X4_thrown, mt_X4_in, mt_X4_isComponent, mt_X4_of, mt_X4_add, mt_X4_isValue, mt_X4_set, mt_X4_property, mt_X4_isAsked, mt_X4_dependAt, mt_X4_depend, mt_X4_clear, mt_X4_dependency, mt_X4_profile, mt_X4_components, mt_X4_isActive, mt_X4_candidatesFor, mt_X4_bits, mt_X4_lowest, mt_X4_choose, mt_X4_candidates, mt_X4_chosen, mt_X4_isInFrames, mt_X4_push, mt_X4_wanted, mt_X4_wouldGoOn, mt_X4_problem, mt_X4_directly, mt_X4_needs, mt_X4_fail, mt_X4_construct, mt_X4_living, mt_X4_obtain, mt_X4_inject, mt_X4_serve, mt_X4_receive, mt_X4_note, mt_X4_complete, mt_X4_goOn, mt_X4_clean, mt_X4_destroy, mt_X4_make, mt_X4_settle, mt_X4_request, mt_X4_resolve, mt_X4_isInstance, mt_X4_isLater, mt_X4_provide, mt_X4_start, mt_X4_begin, mt_X4_endScope, mt_X4_end, mt_X4_close, mt_X4_instances, mt_X4_componentOf, mt_X4_isAlive, mt_X4_injected, mt_X4_event, mt_X4_failureKind, mt_X4_failureDetail, mt_X4_failureChain, mt_L_add, mt_L_set, mt_L_property, mt_L_depend, mt_L_clear, mt_L_dependency, mt_L_profile, mt_L_candidates, mt_L_chosen, mt_L_problem, mt_L_needs, mt_L_resolve, mt_L_provide, mt_L_start, mt_L_begin, mt_L_end, mt_L_componentOf, mt_L_isAlive, mt_L_injected, mt_L_law]
def mv_mcs : List Nat := [0, 0, 0, 0, 0, 0, 0, 0, 0, 0, 0, 0, 0, 0, 0, 0, 0, 0, 0, 0, 0, 0, 0, 0, 1, 3, 2, 3, 1, 2, 1, 0, 1, 1, 1, 1, 2, 3, 1, 1, 1, 0, 0, 1, 1, 2, 0, 0, 0, 0, 0, 0, 1, 1, 1, 1, 0, 0, 0, 1, 0, 0, 0, 0, 0, 0, 0, 0, 0, 0, 0, 0, 0, 0, 0, 0, 0, 0, 0, 0, 0, 0, 0, 0, 0, 0, 0, 0, 0, 0, 0, 0, 0, 0, 0, 0, 0, 0, 0, 0, 0, 0, 0, 0, 0, 0, 0, 0, 0, 0, 0, 0, 0, 0, 0, 0, 0, 0, 0, 0, 0, 0, 0, 0, 0, 0, 0, 0, 0, 0, 0, 1, 3, 2, 3, 1, 2, 1, 1, 1, 1, 1, 2, 3, 1, 1, 1, 1, 1, 2, 0]
def mv_nLs : List Nat := [4, 7, 3, 4, 4, 3, 2, 4, 5, 3, 3, 3, 3, 4, 6, 6, 5, 6, 3, 2, 2, 5, 3, 2, 3, 5, 3, 5, 3, 4, 4, 1, 3, 3, 2, 2, 3, 4, 3, 1, 1, 3, 1, 2, 2, 3, 2, 1, 1, 2, 3, 2, 2, 2, 2, 3, 6, 7, 5, 5, 6, 6, 7, 4, 6, 5, 5, 4, 2, 2, 1, 3, 2, 3, 3, 2, 5, 3, 2, 4, 6, 3, 4, 4, 1, 2, 6, 3, 2, 6, 3, 4, 4, 2, 7, 3, 3, 5, 5, 3, 3, 6, 3, 3, 6, 3, 2, 5, 2, 1, 2, 2, 3, 5, 4, 2, 3, 5, 3, 1, 3, 1, 3, 1, 2, 2, 3, 2, 1, 1, 2, 5, 6, 5, 7, 4, 6, 5, 5, 5, 4, 4, 5, 5, 3, 3, 3, 4, 4, 5, 7]
def mv_hnds : List (Nat × Nat × Nat × Nat × Nat) := [(kL_add, 5, 0, 15, 4), (kL_add, 5, 1, 19, 4), (kL_set, 7, 2, 17, 5), (kL_set, 7, 0, 21, 5), (kL_property, 5, 2, 15, 4), (kL_property, 5, 0, 19, 4), (kL_depend, 9, 2, 19, 6), (kL_depend, 9, 0, 23, 6), (kL_depend, 9, 1, 27, 6), (kL_clear, 4, 2, 13, 3), (kL_dependency, 7, 2, 17, 5), (kL_dependency, 7, 0, 21, 5), (kL_profile, 5, 0, 22, 4), (kL_candidates, 5, 0, 15, 4), (kL_chosen, 5, 0, 15, 4), (kL_problem, 4, 2, 13, 3), (kL_needs, 4, 2, 13, 3), (kL_resolve, 5, 0, 15, 4), (kL_resolve, 5, 1, 19, 4), (kL_provide, 5, 2, 15, 4), (kL_provide, 5, 0, 19, 4), (kL_provide, 5, 1, 23, 4), (kL_start, 3, 1, 12, 2), (kL_begin, 3, 1, 12, 2), (kL_end, 3, 1, 12, 2), (kL_componentOf, 4, 2, 13, 3), (kL_isAlive, 4, 2, 20, 3), (kL_injected, 5, 2, 15, 4), (kL_injected, 5, 0, 19, 4)]
def mv_tab (k : Nat) : List (Nat × mv_F) := (mv_tabs[k]?).getD []
def mv_mc (k : Nat) : Nat := (mv_mcs[k]?).getD 0
def mv_nL (k : Nat) : Nat := (mv_nLs[k]?).getD 0
def mv_look (pc : Nat) : List (Nat × mv_F) → Option mv_F
  | [] => none
  | (q, f) :: t => match Nat.beq pc q with
    | true => some f
    | false => mv_look pc t
def mv_act (k : Nat) (s : mv_S) : mv_A := match mv_look s.1 (mv_tab k) with
  | some f => f s.2.1 s.2.2.1 s.2.2.2
  | none => none
def mv_hl (k pc E : Nat) : List (Nat × Nat × Nat × Nat × Nat) → Option (Nat × Nat)
  | [] => none
  | (k', pc', E', p, i) :: t => match Nat.beq k k' && (Nat.beq pc pc' && Nat.beq E E') with
    | true => some (p, i)
    | false => mv_hl k pc E t
def mv_hnd (k pc E : Nat) : Option (Nat × Nat) := mv_hl k pc E mv_hnds
/-- no handler in k -/
def mv_nh (k : Nat) : Bool := mv_hnds.all (fun t => !(Nat.beq k t.1))
def mv_c1 : mv_V → Bool
  | Sum.inr (Sum.inr _) => false
  | _ => true
def mv_ag (k : Nat) (as : List mv_V) : Bool := as.all mv_c1 && Nat.ble as.length (mv_nL k)
def mv_ent (k : Nat) (as : List mv_V) : mv_L := as.map some ++ List.replicate (mv_nL k - as.length) none
def mv_pp : Option Prop → Prop
  | some P => P
  | none => True
/-- n steps at most, d calls deep, b cells to spare: from s in method k every end is a Φ -/
def mv_Ev : Nat → Nat → Nat → Nat → mv_S → (mv_O → mv_M → Prop) → Prop
  | 0, _, _, _, _, _ => False
  | n + 1, d, b, k, s, Φ => match mv_act k s with
    | none => False
    | some (Sum.inl (P, s')) => mv_pp P ∧ mv_Ev n d b k s' Φ
    | some (Sum.inr (Sum.inl bs)) => ∀ e ∈ bs, e.1 → mv_Ev n d b k e.2 Φ
    | some (Sum.inr (Sum.inr (Sum.inl (k', as, rest, nx)))) => mv_ag k' as = true ∧ mv_mc k' ≤ b ∧ ∃ d', d = d' + 1 ∧ ∃ Ψ : mv_O → mv_M → Prop, mv_Ev n d' (mv_mc k') k' (0, mv_ent k' as, [], s.2.2.2) Ψ ∧ ∀ (o : mv_O) (M' : mv_M), Ψ o M' → match o with
      | Sum.inl v => mv_Ev n d (b - mv_mc k') k (nx, s.2.1, v.toList ++ rest, M') Φ
      | Sum.inr E => match mv_hnd k s.1 E with
        | some (p, i) => mv_Ev n d (b - mv_mc k') k (p, s.2.1.set i none, [], M') Φ
        | none => mv_nh k = true ∧ Φ (Sum.inr E) M'
    | some (Sum.inr (Sum.inr (Sum.inr (Sum.inl (P, v))))) => P ∧ Φ (Sum.inl v) s.2.2.2
    | some (Sum.inr (Sum.inr (Sum.inr (Sum.inr E)))) => mv_nh k = true ∧ 1 ≤ b ∧ Φ (Sum.inr E) s.2.2.2
end
section
/-! THE MINI-MACHINE'S WORLD IN THE HEAP -/
section MVW
def mv_val (ad : Nat → Nat → Nat) : mv_V → Value
  | Sum.inl x => .int x
  | Sum.inr (Sum.inl r) => .ref (ad r.1 r.2)
  | Sum.inr (Sum.inr x) => .long x.toInt64
def mv_LR (ad : Nat → Nat → Nat) (ls : Array Slot) (lv : mv_L) : Prop := ls.size = lv.length ∧ lv_wf ls ∧ ∀ (i : Nat) (v : mv_V), lv[i]? = some (some v) → ls[i]? = some (.val (mv_val ad v)) ∧ (mv_val ad v).category = 1
def mv_lvl (ad : Nat → Nat → Nat) (lv : mv_L) : List (Nat × Value) := (List.range lv.length).filterMap (fun i => match lv[i]? with
  | some (some v) => some (i, mv_val ad v)
  | _ => none)
theorem mv_lvl_mem {ad : Nat → Nat → Nat} {lv : mv_L} {i : Nat} {w : Value} : (i, w) ∈ mv_lvl ad lv ↔ ∃ v, lv[i]? = some (some v) ∧ w = mv_val ad v := by
  unfold mv_lvl
  rw [List.mem_filterMap]
  constructor
  · rintro ⟨j, -, h⟩
    split at h
    · next v hv => cases h; exact ⟨v, hv, rfl⟩
    · cases h
  · rintro ⟨v, h1, h2⟩
    refine ⟨i, List.mem_range.mpr (List.getElem?_eq_some_iff.mp h1).1, ?_⟩
    rw [h1, h2]
theorem mv_LR.has {ad : Nat → Nat → Nat} {ls : Array Slot} {lv : mv_L} (h : mv_LR ad ls lv) : lv_has ls lv.length (mv_lvl ad lv) := ⟨h.1, h.2.1, fun q hq => by
  obtain ⟨i, w⟩ := q
  obtain ⟨v, h1, h2⟩ := mv_lvl_mem.mp hq
  subst h2
  exact (h.2.2 _ _ h1).1⟩
theorem mv_LR.put {ad : Nat → Nat → Nat} {ls ls' : Array Slot} {lv : mv_L} {i : Nat} {v : mv_V} (h : mv_LR ad ls lv) (hi : i < lv.length) (hv : (mv_val ad v).category = 1) (hl : lv_has ls' lv.length ((i, mv_val ad v) :: (mv_lvl ad lv).filter (fun q => !(q.1 == i) && !(q.1 + 1 == i && q.2.category == 2)))) : mv_LR ad ls' (lv.set i (some v)) := by
  refine ⟨by rw [List.length_set]; exact hl.1, hl.2.1, fun j w hj => ?_⟩
  by_cases e : j = i
  · subst e
    rw [List.getElem?_set_self hi] at hj
    cases hj
    exact ⟨hl.2.2 (j, mv_val ad v) List.mem_cons_self, hv⟩
  · rw [List.getElem?_set_ne (fun q => e q.symm)] at hj
    obtain ⟨a, b⟩ := h.2.2 j w hj
    refine ⟨hl.2.2 (j, mv_val ad w) (List.mem_cons_of_mem _ (List.mem_filter.mpr ⟨mv_lvl_mem.mpr ⟨w, hj, rfl⟩, ?_⟩)), b⟩
    simp [e, b]
theorem mv_LR.drop {ad : Nat → Nat → Nat} {ls ls' : Array Slot} {lv : mv_L} {i : Nat} {v : Value} (h : mv_LR ad ls lv) (hi : i < lv.length) (hl : lv_has ls' lv.length ((i, v) :: (mv_lvl ad lv).filter (fun q => !(q.1 == i) && !(q.1 + 1 == i && q.2.category == 2)))) : mv_LR ad ls' (lv.set i none) := by
  refine ⟨by rw [List.length_set]; exact hl.1, hl.2.1, fun j w hj => ?_⟩
  by_cases e : j = i
  · subst e
    rw [List.getElem?_set_self hi] at hj
    cases hj
  · rw [List.getElem?_set_ne (fun q => e q.symm)] at hj
    obtain ⟨a, b⟩ := h.2.2 j w hj
    refine ⟨hl.2.2 (j, mv_val ad w) (List.mem_cons_of_mem _ (List.mem_filter.mpr ⟨mv_lvl_mem.mpr ⟨w, hj, rfl⟩, ?_⟩)), b⟩
    simp [e, b]
def mv_flds (ad : Nat → Nat → Nat) (fs : List (Option Nat)) (f : Nat → Int32) : List Value := (List.range fs.length).map (fun k => match fs[k]? with
  | some (some r) => .ref (ad r 0)
  | _ => .int (f k))
def mv_cel (cA : Nat → ClassId) (ad : Nat → Nat → Nat) (g : Nat) (f : Nat → Int32) : va_E := match mv_shp g with
  | some (Sum.inl (ci, fs), _) => .inr (ci, mv_flds ad fs f)
  | some (Sum.inr (Sum.inl (2, n)), _) => .inl (cA 2, n, .inr (.inl (fun o => (f o).toInt64)))
  | some (Sum.inr (Sum.inl (kd, n)), _) => .inl (cA kd, n, .inl f)
  | some (Sum.inr (Sum.inr (r, n)), _) => .inl (cA 3, n, .inr (.inr (.inr (.inr (fun i => if i < n then some (ad r i) else none)))))
  | none => .inr (0, [])
def mv_cnt (g : Nat) : Nat := match mv_shp g with
  | some (_, c) => c
  | none => 0
def mv_cells : List (Nat × Nat) := (List.range 43).flatMap (fun g => (List.range (mv_cnt g)).map (fun j => (g, j)))
theorem mv_cells_nd : mv_cells.Nodup := by decide +kernel
theorem mv_shp_lt {g : Nat} {x : mv_Sh × Nat} (h : mv_shp g = some x) : g < 43 := (List.getElem?_eq_some_iff.mp h).1
theorem mv_cells_mem {g j c : Nat} {sh : mv_Sh} (h : mv_shp g = some (sh, c)) (hj : j < c) : (g, j) ∈ mv_cells := by
  refine List.mem_flatMap.mpr ⟨g, List.mem_range.mpr (mv_shp_lt h), List.mem_map.mpr ⟨j, List.mem_range.mpr ?_, rfl⟩⟩
  unfold mv_cnt
  rw [h]
  exact hj
def mv_WS (cA : Nat → ClassId) (ad : Nat → Nat → Nat) (M : mv_M) : va_W := mv_cells.map (fun c => (ad c.1 c.2, mv_cel cA ad c.1 (M c.1 c.2)))
theorem mv_WS_at {g j c : Nat} {sh : mv_Sh} (cA : Nat → ClassId) (ad : Nat → Nat → Nat) (M : mv_M) (h : mv_shp g = some (sh, c)) (hj : j < c) : ∃ q0 : Nat, mv_cells[q0]? = some (g, j) ∧ (mv_WS cA ad M)[q0]? = some (ad g j, mv_cel cA ad g (M g j)) := by
  obtain ⟨q0, hq⟩ := List.getElem?_of_mem (mv_cells_mem h hj)
  exact ⟨q0, hq, by unfold mv_WS; rw [List.getElem?_map, hq]; rfl⟩
theorem mv_WS_set {q0 g j : Nat} {cA : Nat → ClassId} {ad : Nat → Nat → Nat} {M : mv_M} {f : Nat → Int32} (h : mv_cells[q0]? = some (g, j)) : (mv_WS cA ad M).set q0 (ad g j, mv_cel cA ad g f) = mv_WS cA ad (mv_cp M g j f) := by
  apply List.ext_getElem?
  intro i
  have hlt : q0 < mv_cells.length := (List.getElem?_eq_some_iff.mp h).1
  unfold mv_WS
  rw [List.getElem?_set, List.getElem?_map, List.getElem?_map, List.length_map]
  by_cases e : q0 = i
  · subst e
    rw [if_pos rfl, if_pos hlt, h]
    simp [mv_cp]
  · rw [if_neg e]
    cases hc : mv_cells[i]? with
    | none => rfl
    | some c =>
      have hne : ¬ (c.1 = g ∧ c.2 = j) := by
        rintro ⟨h1, h2⟩
        have hcc : c = (g, j) := by rw [← h1, ← h2]
        rw [hcc] at hc
        exact e ((List.getElem?_inj hlt mv_cells_nd).mp (h.trans hc.symm))
      simp [mv_cp, hne]
theorem mv_D_any {A : Nat → Prop} {cA : Nat → ClassId} {ad : Nat → Nat → Nat} {M : mv_M} (h : va_D A (mv_WS cA ad M)) (M' : mv_M) : va_D A (mv_WS cA ad M') := by
  have key : ∀ (k : Nat) (q : Nat × va_E), (mv_WS cA ad M')[k]? = some q → ∃ q' : Nat × va_E, (mv_WS cA ad M)[k]? = some q' ∧ q'.1 = q.1 := by
    intro k q hq
    unfold mv_WS at hq ⊢
    rw [List.getElem?_map] at hq ⊢
    cases hc : mv_cells[k]? with
    | none => rw [hc] at hq; cases hq
    | some c => rw [hc] at hq; cases hq; exact ⟨_, rfl, rfl⟩
  refine ⟨fun i j p q hp hq hpq => ?_, fun k q hq => ?_⟩
  · obtain ⟨p', h1, h2⟩ := key i p hp
    obtain ⟨q', h3, h4⟩ := key j q hq
    exact h.1 i j p' q' h1 h3 (by rw [h2, h4, hpq])
  · obtain ⟨q', h1, h2⟩ := key k q hq
    rw [← h2]
    exact h.2 k q' h1
theorem mv_WS_addr {cA : Nat → ClassId} {ad : Nat → Nat → Nat} {M : mv_M} {k : Nat} {q : Nat × va_E} (h : (mv_WS cA ad M)[k]? = some q) : ∃ c ∈ mv_cells, q.1 = ad c.1 c.2 := by
  unfold mv_WS at h
  obtain ⟨c, hc, rfl⟩ := List.mem_map.mp (List.mem_of_getElem? h)
  exact ⟨c, hc, rfl⟩
theorem mv_flds_get {ad : Nat → Nat → Nat} {fs : List (Option Nat)} {f : Nat → Int32} {k : Nat} {x : Option Nat} (h : fs[k]? = some x) : (mv_flds ad fs f)[k]? = some (match x with
  | some r => .ref (ad r 0)
  | none => .int (f k)) := by
  have hk : k < fs.length := (List.getElem?_eq_some_iff.mp h).1
  unfold mv_flds
  rw [List.getElem?_map, List.getElem?_range hk]
  cases x <;> simp [h]
theorem mv_flds_set {ad : Nat → Nat → Nat} {fs : List (Option Nat)} {f : Nat → Int32} {k : Nat} {x : Int32} (h : fs[k]? = some none) : (mv_flds ad fs f).set k (.int x) = mv_flds ad fs (upd f k x) := by
  have hk : k < fs.length := (List.getElem?_eq_some_iff.mp h).1
  apply List.ext_getElem?
  intro i
  unfold mv_flds
  rw [List.getElem?_set, List.getElem?_map, List.getElem?_map, List.length_map, List.length_range]
  by_cases e : k = i
  · subst e
    rw [if_pos rfl, if_pos hk, List.getElem?_range hk]
    simp [h, upd]
  · rw [if_neg e]
    by_cases hi : i < fs.length
    · rw [List.getElem?_range hi]
      have e2 : ¬ i = k := fun q => e q.symm
      simp only [Option.map_some, Option.some.injEq]
      split
      · rfl
      · simp [upd, e2]
    · rw [List.getElem?_eq_none (by simpa using hi)]
      rfl
theorem mv_flds_len {ad : Nat → Nat → Nat} {fs : List (Option Nat)} {f : Nat → Int32} : (mv_flds ad fs f).length = fs.length := by simp [mv_flds]
end MVW
end
section
def mv_nms : List MethodName := [yX0_append, yX0_appendDependency, yX0_hasDependency, yX0_partOf, yX0_turnProfile, yX0_isActive, yX0_isStarted, yX0_provides, yX0_candidateMask, yX0_candidatesFor, yX0_choiceAmong, yX0_singleIn, yX0_primaryMask, yX0_directNeeds, yX0_needsOfDependency, yX0_allNeeds, yX1_remember, yX2_append, yX2_hasInjection, yX2_destroyAllIn, yX2_destroyPrototypesFrom, yX2_destroyFrom, yX2_destroy, yX2_recordEvent, yX3_add, yX3_set, yX3_property, yX3_depend, yX3_clear, yX3_dependency, yX3_profile, yX3_components, yX3_candidates, yX3_chosen, yX3_problem, yX3_needs, yX3_resolve, yX3_provide, yX3_start, yX3_begin, yX3_end, yX3_close, yX3_instances, yX3_componentOf, yX3_isAlive, yX3_injected, yX3_event, yX3_failureKind, yX3_failureDetail, yX3_failureChain, yX3_isBetween, yX3_isPropertyValue, yX3_requireComponent, yX3_requireInstance, yX3_requireProperty, yX3_requireTypeAndQualifier, yX3_tryConstruction, yX3_tryDependency, yX3_tryEach, yX3_requestOrThrow, yX3_request, yX3_obtain, yX3_construct, yX3_isUnderConstruction, yX3_inject, yX3_obtainEach, yX3_complete, yX3_recordFailure, yX3_closeInnermostScope, yX3_isIn, yX4_thrown, yX4_in, yX4_isComponent, yX4_of, yX4_add, yX4_isValue, yX4_set, yX4_property, yX4_isAsked, yX4_dependAt, yX4_depend, yX4_clear, yX4_dependency, yX4_profile, yX4_components, yX4_isActive, yX4_candidatesFor, yX4_bits, yX4_lowest, yX4_choose, yX4_candidates, yX4_chosen, yX4_isInFrames, yX4_push, yX4_wanted, yX4_wouldGoOn, yX4_problem, yX4_directly, yX4_needs, yX4_fail, yX4_construct, yX4_living, yX4_obtain, yX4_inject, yX4_serve, yX4_receive, yX4_note, yX4_complete, yX4_goOn, yX4_clean, yX4_destroy, yX4_make, yX4_settle, yX4_request, yX4_resolve, yX4_isInstance, yX4_isLater, yX4_provide, yX4_start, yX4_begin, yX4_endScope, yX4_end, yX4_close, yX4_instances, yX4_componentOf, yX4_isAlive, yX4_injected, yX4_event, yX4_failureKind, yX4_failureDetail, yX4_failureChain, yL_add, yL_set, yL_property, yL_depend, yL_clear, yL_dependency, yL_profile, yL_candidates, yL_chosen, yL_problem, yL_needs, yL_resolve, yL_provide, yL_start, yL_begin, yL_end, yL_componentOf, yL_isAlive, yL_injected, yL_law]
def mv_cods : List ByteArray := [cX0_append, cX0_appendDependency, cX0_hasDependency, cX0_partOf, cX0_turnProfile, cX0_isActive, cX0_isStarted, cX0_provides, cX0_candidateMask, cX0_candidatesFor, cX0_choiceAmong, cX0_singleIn, cX0_primaryMask, cX0_directNeeds, cX0_needsOfDependency, cX0_allNeeds, cX1_remember, cX2_append, cX2_hasInjection, cX2_destroyAllIn, cX2_destroyPrototypesFrom, cX2_destroyFrom, cX2_destroy, cX2_recordEvent, cX3_add, cX3_set, cX3_property, cX3_depend, cX3_clear, cX3_dependency, cX3_profile, cX3_components, cX3_candidates, cX3_chosen, cX3_problem, cX3_needs, cX3_resolve, cX3_provide, cX3_start, cX3_begin, cX3_end, cX3_close, cX3_instances, cX3_componentOf, cX3_isAlive, cX3_injected, cX3_event, cX3_failureKind, cX3_failureDetail, cX3_failureChain, cX3_isBetween, cX3_isPropertyValue, cX3_requireComponent, cX3_requireInstance, cX3_requireProperty, cX3_requireTypeAndQualifier, cX3_tryConstruction, cX3_tryDependency, cX3_tryEach, cX3_requestOrThrow, cX3_request, cX3_obtain, cX3_construct, cX3_isUnderConstruction, cX3_inject, cX3_obtainEach, cX3_complete, cX3_recordFailure, cX3_closeInnermostScope, cX3_isIn, cX4_thrown, cX4_in, cX4_isComponent, cX4_of, cX4_add, cX4_isValue, cX4_set, cX4_property, cX4_isAsked, cX4_dependAt, cX4_depend, cX4_clear, cX4_dependency, cX4_profile, cX4_components, cX4_isActive, cX4_candidatesFor, cX4_bits, cX4_lowest, cX4_choose, cX4_candidates, cX4_chosen, cX4_isInFrames, cX4_push, cX4_wanted, cX4_wouldGoOn, cX4_problem, cX4_directly, cX4_needs, cX4_fail, cX4_construct, cX4_living, cX4_obtain, cX4_inject, cX4_serve, cX4_receive, cX4_note, cX4_complete, cX4_goOn, cX4_clean, cX4_destroy, cX4_make, cX4_settle, cX4_request, cX4_resolve, cX4_isInstance, cX4_isLater, cX4_provide, cX4_start, cX4_begin, cX4_endScope, cX4_end, cX4_close, cX4_instances, cX4_componentOf, cX4_isAlive, cX4_injected, cX4_event, cX4_failureKind, cX4_failureDetail, cX4_failureChain, cL_add, cL_set, cL_property, cL_depend, cL_clear, cL_dependency, cL_profile, cL_candidates, cL_chosen, cL_problem, cL_needs, cL_resolve, cL_provide, cL_start, cL_begin, cL_end, cL_componentOf, cL_isAlive, cL_injected, cL_law]
def mv_rts : List (Option FieldType) := [some .int, some .int, some .boolean, some .int, none, some .boolean, some .boolean, some .boolean, some .int, some .int, some .int, some .int, some .int, some .int, some .int, some .int, none, some .int, some .boolean, some .int, none, some .int, none, none, some .int, some .int, some .int, some .int, some .int, some .int, some .boolean, some .int, some .int, some .int, some .int, some .int, some .int, some .int, some .int, some .int, some .int, some .int, some .int, some .int, some .boolean, some .int, some .int, some .int, some .int, some .int, some .boolean, some .boolean, none, none, none, none, some .int, some .int, some .int, some .int, some .int, some .int, some .int, some .boolean, some .int, some .int, some .int, some .int, some .int, some .boolean, some .int, some .boolean, some .boolean, some .int, some .int, some .boolean, some .int, some .int, some .boolean, some .int, some .int, some .int, some .int, some .boolean, some .int, some .boolean, some .int, some .int, some .int, some .int, some .int, some .int, some .boolean, none, some .int, some .int, some .int, some .int, some .int, none, none, some .int, none, none, none, none, none, none, none, none, none, none, some .boolean, some .int, some .int, some .boolean, some .boolean, some .int, some .int, some .int, some .int, some .int, some .int, some .int, some .int, some .boolean, some .int, some .int, some .int, some .int, some .int, some .int, some .int, some .int, some .int, some .int, some .int, some .int, some .int, some .int, some .int, some .int, some .int, some .int, some .int, some .int, some .int, some .int, some .int, some .int, some .boolean]
def mv_hhs : List (List (Nat × Nat × Nat × Nat)) := [[], [], [], [], [], [], [], [], [], [], [], [], [], [], [], [], [], [], [], [], [], [], [], [], [], [], [], [], [], [], [], [], [], [], [], [], [], [], [], [], [], [], [], [], [], [], [], [], [], [], [], [], [], [], [], [], [], [], [], [], [], [], [], [], [], [], [], [], [], [], [], [], [], [], [], [], [], [], [], [], [], [], [], [], [], [], [], [], [], [], [], [], [], [], [], [], [], [], [], [], [], [], [], [], [], [], [], [], [], [], [], [], [], [], [], [], [], [], [], [], [], [], [], [], [], [], [], [], [], [], [], [(0, 10, 13, 13), (0, 10, 17, 15)], [(0, 12, 15, 21), (0, 12, 19, 13)], [(0, 10, 13, 21), (0, 10, 17, 13)], [(0, 14, 17, 21), (0, 14, 21, 13), (0, 14, 25, 15)], [(0, 9, 12, 21)], [(0, 12, 15, 21), (0, 12, 19, 13)], [(0, 17, 20, 13)], [(0, 10, 13, 13)], [(0, 10, 13, 13)], [(0, 9, 12, 21)], [(0, 9, 12, 21)], [(0, 10, 13, 13), (0, 10, 17, 15)], [(0, 10, 13, 21), (0, 10, 17, 13), (0, 10, 21, 15)], [(0, 8, 11, 15)], [(0, 8, 11, 15)], [(0, 8, 11, 15)], [(0, 9, 12, 21)], [(0, 16, 19, 21)], [(0, 10, 13, 21), (0, 10, 17, 13)], []]
def mv_strs : List (String × Nat × String) := [("ComponentContainer", 52, "types or scope is out of range"), ("ComponentContainer", 62, "there are 20 components"), ("ComponentContainer", 76, "the value is out of its range"), ("ComponentContainer", 89, "mode is out of range"), ("ComponentContainer", 94, "the component has 6 dependencies"), ("ComponentContainer", 100, "part is out of range"), ("ComponentContainer", 109, "profile is out of range"), ("ComponentContainer", 143, "no LATER dependency has this number"), ("ComponentContainer", 149, "the instance is not alive"), ("ComponentContainer", 162, "an instance could not be obtained"), ("ComponentContainer", 164, "5 scopes are open"), ("ComponentContainer", 166, "no scope is open"), ("ComponentContainer", 178, "the component had no such dependency"), ("ComponentContainer", 207, "there is no such component"), ("ComponentContainer", 210, "there is no such instance"), ("ComponentContainer", 212, "there is no such property"), ("ComponentContainer", 214, "type or qualifier is out of range"), ("ComponentContainer", 228, "the request failed")]
def mv_stas : List (Nat × String) := [(50, "LOWEST_VALUES"), (51, "HIGHEST_VALUES")]
def mv_ncs : List (String × String) := [("java/lang/IllegalArgumentException", "java/lang/IndexOutOfBoundsException"), ("java/lang/IllegalStateException", "java/lang/IllegalArgumentException"), ("java/lang/IllegalStateException", "java/lang/IndexOutOfBoundsException")]
/-! EACH INSTRUCTION OF THE MINI-MACHINE IS THE MACHINE'S -/
def mv_ex (E : Nat) : String := (["java/lang/IllegalArgumentException", "java/lang/IllegalStateException", "java/lang/IndexOutOfBoundsException"][E]?).getD ""
def mv_W : List Cond := lw_tbl.filter goodWord
def mv_nk : Cond → Bool
  | .fieldLinkNest .. => true
  | .methodLinkNest .. => true
  | .castable .. => true
  | .declares .. => true
  | _ => false
def mv_nst : List Cond := lw_tbl.filter mv_nk
def mv_nm (k : Nat) : MethodName := (mv_nms[k]?).getD yL_law
def mv_cod (k : Nat) : ByteArray := (mv_cods[k]?).getD ByteArray.empty
def mv_rt (k : Nat) : Option FieldType := (mv_rts[k]?).getD none
def mv_hh (k : Nat) : List (Nat × Nat × Nat × Nat) := (mv_hhs[k]?).getD []
def mv_own (k : Nat) : String := (mv_nm k).cls
def mv_cw (k : Nat) : Cond := match mv_hh k with
  | [] => .code (mv_nm k) (mv_cod k) (mv_nL k) (mv_rt k)
  | hh => .codeWith (mv_nm k) (mv_cod k) (mv_nL k) (mv_rt k) hh
def mv_wd (k : Nat) : List Cond := mv_cw k :: mv_W
def mv_tys (cA : Nat → ClassId) : List (ClassId × FieldType) := [(cA 0, .int), (cA 1, .boolean), (cA 2, .long), (cA 3, .array .int)]
/-- a row that is read alone: at least L cells, and as many as an int tells -/
def vX_ (b L : Nat) (xs : Nat → Int32) (U : State) (H : Heap) : Prop := ∃ scr : Cell, H[b]? = some scr ∧ U.isArrayOf scr .int ∧ scr.vm ≠ .unknown ∧ L ≤ scr.slots.size ∧ scr.slots.size.toInt32 = Int32.ofNat L ∧ ∀ j : Nat, j < L → scr.slots[j]? = some (.int (xs j))
theorem vX_.kept {b L : Nat} {xs : Nat → Int32} {U : State} {H H1 : Heap} (h : vX_ b L xs U H) (hq : H1[b]? = H[b]?) : vX_ b L xs U H1 := by
  obtain ⟨scr, h1, h2⟩ := h
  exact ⟨scr, by rw [hq]; exact h1, h2⟩
theorem vX_.moved {b L : Nat} {xs : Nat → Int32} {u U : State} {H : Heap} (hvm : u.vm.Alike U.vm) (h : vX_ b L xs u H) : vX_ b L xs U H := by
  obtain ⟨scr, h1, h2, h3⟩ := h
  exact ⟨scr, h1, State.isArrayOf_alike hvm h2, h3⟩
section VXR
variable {p : Program} {l : Launch} {e : Env} {R : Room} {s : State} {m : MethodId} {args : Array Value} {below : List Frame} {meth : Method} {c : Code} {H : Heap} {locs : List Loc} {cells slots : Nat} {Q : State → Prop} {cc : ByteArray} {pc : Nat} {ls : Array Slot} {rest : List Value} {A : Nat → Prop} {H0 : Heap}
theorem vX_sld (hexec : p.tables.exec = Jvm.exec) (hb : c.code = cc) {b L : Nat} {xs : Nat → Int32} (hX : vX_ b L xs s H0) (hbl : b < H0.size) (hbA : ¬ A b) (hS : va_S A H0 H locs) {i : Int32} (hin : vp_in i L) (hdg : decode cc pc = .ok (.iaload, 1))
    (kk : W p l e R s m args below meth c H locs cells slots Q (F0 m (pc + 1) ls (.int (xs i.toNatClampNeg) :: rest))) : W p l e R s m args below meth c H locs cells slots Q (F0 m pc ls (.int i :: .ref b :: rest)) := by
  obtain ⟨scr, h1, h2, h3, h4, -, h5⟩ := hX
  have hlt : i.toNatClampNeg < L := Nat.not_le.mp fun q => hin (Or.inr q)
  exact W.iald (v := .int (xs i.toNatClampNeg)) hexec hb (by rw [hS.2.1 b hbl hbA]; exact h1) h2 h3 (fun q => hin (q.elim Or.inl (fun z => Or.inr (Nat.le_trans h4 z)))) (h5 _ hlt) rfl rfl hdg kk
theorem vX_slen (hexec : p.tables.exec = Jvm.exec) (hb : c.code = cc) {b L : Nat} {xs : Nat → Int32} (hX : vX_ b L xs s H0) (hbl : b < H0.size) (hbA : ¬ A b) (hS : va_S A H0 H locs) (hdg : decode cc pc = .ok (.arraylength, 1))
    (kk : W p l e R s m args below meth c H locs cells slots Q (F0 m (pc + 1) ls (.int (Int32.ofNat L) :: rest))) : W p l e R s m args below meth c H locs cells slots Q (F0 m pc ls (.ref b :: rest)) := by
  obtain ⟨scr, h1, h2, h3, -, h4, h5⟩ := hX
  exact W.alen (n := Int32.ofNat L) hexec hb (by rw [hS.2.1 b hbl hbA]; exact h1) h2 h4 rfl rfl hdg kk
end VXR
/-- what stands beside the world and never changes: the tables' words of nest mates, the texts of the exceptions, the static rows, the script -/
def mv_EX (D : va_G) (cA : Nat → ClassId) (ad : Nat → Nat → Nat) (X0 : mv_M) (A : Nat → Prop) (U : State) : Prop :=
  va_K D vwCl (mv_tys cA) U ∧ (∀ w ∈ mv_nst, va_Nw w U) ∧ vx_Zq Bundle.tN "UNASSIGNED_STACK" Bundle.steD A U U.heap ∧ vx_Zq Bundle.tN "SUPPRESSED_SENTINEL" Bundle.listD A U U.heap ∧
  (∀ t ∈ mv_strs, ∃ sa : Nat, vk_R t.1 t.2.1 t.2.2 sa U) ∧ (∀ t ∈ mv_ncs, va_Nc t.1 t.2 U) ∧ (∀ t ∈ mv_stas, va_Z "ComponentContainer" t.2 "[I" (.ref (ad t.1 0)) A U U.heap) ∧
  ∀ g : Nat, mv_isX g = true → vX_ (ad g 0) (mv_xl X0 g) (X0 g 0) U U.heap ∧ ad g 0 < U.heap.size ∧ ¬ A (ad g 0)
def mv_AA (ad : Nat → Nat → Nat) (sz : Nat) : Nat → Prop := fun q => (∃ c ∈ mv_cells, q = ad c.1 c.2) ∨ sz ≤ q
def mv_rm (k d : Nat) : Room := { frames := d + 8, cells := mv_mc k, slots := 6 * mv_mc k, locals := 64 * d + 200 }
/-- a contract's start -/
def mv_Pr (D : va_G) (cA : Nat → ClassId) (ad : Nat → Nat → Nat) (X0 : mv_M) (sz : Nat) (as : List mv_V) (M : mv_M) : Array Value → State → Prop := va_Pc (as.map (mv_val ad)) (fun U => U.heap.size = sz ∧ va_P D vwCl (mv_WS cA ad M) U.heap ∧ (∀ g, 50 ≤ g → M g = X0 g) ∧ mv_EX D cA ad X0 (mv_AA ad sz) U ∧ ∀ M' : mv_M, va_D (mv_AA ad sz) (mv_WS cA ad M'))
def mv_B (D : va_G) (cA : Nat → ClassId) (ad : Nat → Nat → Nat) (X0 : mv_M) (u : mv_M) (t : State) : Prop := va_P D vwCl (mv_WS cA ad u) t.heap ∧ ∀ g, 50 ≤ g → u g = X0 g
def mv_Qc (D : va_G) (cA : Nat → ClassId) (ad : Nat → Nat → Nat) (X0 : mv_M) (A : Nat → Prop) (Φ : mv_O → mv_M → Prop) (k : Nat) : Array Value → State → Outcome → State → Prop := match mv_rt k with
  | none => va_Qv (fun u => Φ (Sum.inl none) u) (mv_B D cA ad X0) A
  | some _ => va_Qi (fun r u => Φ (Sum.inl (some (Sum.inl r))) u) (mv_B D cA ad X0) A
def mv_XC (D : va_G) (cA : Nat → ClassId) (ad : Nat → Nat → Nat) (X0 : mv_M) (A : Nat → Prop) (Φ : mv_O → mv_M → Prop) : String → State → State → Prop := vx_X (fun u : Nat × mv_M => Φ (Sum.inr u.1) u.2) (fun E u t => E = mv_ex u.1 ∧ mv_B D cA ad X0 u.2 t) A
/-- the contract of method k, d calls deep -/
def mv_Ct (l : Launch) (D : va_G) (cA : Nat → ClassId) (ad : Nat → Nat → Nat) (X0 : mv_M) (d k : Nat) (as : List mv_V) (M : mv_M) (Φ : mv_O → mv_M → Prop) : Prop :=
  ∀ sz : Nat, vx_Met l (mv_nm k) (mv_wd k) (mv_rm k d) (mv_Pr D cA ad X0 sz as M) (mv_Qc D cA ad X0 (mv_AA ad sz) Φ k) (mv_XC D cA ad X0 (mv_AA ad sz) Φ) (mv_mc k) (6 * mv_mc k) (mv_AA ad sz)
/-- where a method's body stands -/
def mv_CX (p : Program) (l : Launch) (s : State) (m : MethodId) (args : Array Value) (meth : Method) (c : Code) (D : va_G) (cA : Nat → ClassId) (ad : Nat → Nat → Nat) (X0 : mv_M) (A : Nat → Prop) (k : Nat) : Prop :=
  p.tables.exec = Jvm.exec ∧ c.code = mv_cod k ∧ meth.sig.returnType = mv_rt k ∧ meth.locks = false ∧ c.maxLocals = mv_nL k ∧ s.vm.findClass (mv_own k) = some m.cls ∧ (∀ w ∈ mv_W, w.before args s = true) ∧ l.stackTraces = false ∧ mv_EX D cA ad X0 A s ∧ (∀ q : Nat, s.heap.size ≤ q → A q) ∧ ∀ M : mv_M, va_D A (mv_WS cA ad M)
def mv_GH (D : va_G) (cA : Nat → ClassId) (ad : Nat → Nat → Nat) (X0 : mv_M) (A : Nat → Prop) (s : State) (M : mv_M) (H : Heap) (locs : List Loc) : Prop := va_P D vwCl (mv_WS cA ad M) H ∧ va_S A s.heap H locs ∧ ∀ g : Nat, 50 ≤ g → M g = X0 g
def mv_WW (p : Program) (l : Launch) (e : Env) (R : Room) (s : State) (m : MethodId) (args : Array Value) (below : List Frame) (meth : Method) (c : Code) (D : va_G) (cA : Nat → ClassId) (ad : Nat → Nat → Nat) (X0 : mv_M) (A : Nat → Prop) (k cells slots : Nat) (Q : State → Prop) (s' : mv_S) : Prop :=
  ∀ (ls : Array Slot) (H : Heap) (locs : List Loc), s'.2.1.length = mv_nL k → mv_LR ad ls s'.2.1 → mv_GH D cA ad X0 A s s'.2.2.2 H locs → W p l e R s m args below meth c H locs cells slots Q (F0 m s'.1 ls (s'.2.2.1.map (mv_val ad)))
def mv_VW (p : Program) (l : Launch) (e : Env) (R : Room) (s : State) (m : MethodId) (args : Array Value) (below : List Frame) (meth : Method) (c : Code) (D : va_G) (cA : Nat → ClassId) (ad : Nat → Nat → Nat) (X0 : mv_M) (A : Nat → Prop) (k cells slots : Nat) (Q : State → Prop) (pc : Nat) (lv : mv_L) (rest : List mv_V) (M : mv_M) (E : Nat) : Prop :=
  ∀ (ls : Array Slot) (H : Heap) (locs : List Loc) (q : Addr) (ce : Cell), lv.length = mv_nL k → mv_LR ad ls lv → mv_GH D cA ad X0 A s M H locs → H[q]? = some ce → ce.vm = .none → s.vm.findClass (mv_ex E) = some ce.cls → vx_W p l e R s m args below meth c H locs cells slots Q (F0 m pc ls (rest.map (mv_val ad))) q
def mv_cl (p : Program) (l : Launch) (e : Env) (R : Room) (s : State) (m : MethodId) (args : Array Value) (below : List Frame) (meth : Method) (c : Code) (D : va_G) (cA : Nat → ClassId) (ad : Nat → Nat → Nat) (X0 : mv_M) (A : Nat → Prop) (k pc : Nat) (lv : mv_L) (st : List mv_V) (M : mv_M) : mv_A → Prop
  | none => True
  | some (Sum.inl (P, s')) => ∀ (cells slots : Nat) (Q : State → Prop), mv_pp P → mv_WW p l e R s m args below meth c D cA ad X0 A k cells slots Q s' → mv_WW p l e R s m args below meth c D cA ad X0 A k cells slots Q (pc, lv, st, M)
  | some (Sum.inr (Sum.inl bs)) => ∀ (cells slots : Nat) (Q : State → Prop), (∀ x ∈ bs, x.1 → mv_WW p l e R s m args below meth c D cA ad X0 A k cells slots Q x.2) → mv_WW p l e R s m args below meth c D cA ad X0 A k cells slots Q (pc, lv, st, M)
  | some (Sum.inr (Sum.inr (Sum.inl (k', as, rest, nx)))) => k' < 150 ∧ ∀ (cells slots : Nat) (Q : State → Prop) (d : Nat) (Ψ : mv_O → mv_M → Prop), mv_Ct l D cA ad X0 d k' as M Ψ → d + 9 ≤ R.frames → 64 * d + 264 ≤ R.locals → cells + mv_mc k' ≤ R.cells → slots + 6 * mv_mc k' ≤ R.slots →
    (∀ (v : Option mv_V) (M' : mv_M), Ψ (Sum.inl v) M' → mv_WW p l e R s m args below meth c D cA ad X0 A k (cells + mv_mc k') (slots + 6 * mv_mc k') Q (nx, lv, v.toList ++ rest, M')) →
    (∀ (E : Nat) (M' : mv_M), Ψ (Sum.inr E) M' → mv_VW p l e R s m args below meth c D cA ad X0 A k (cells + mv_mc k') (slots + 6 * mv_mc k') Q pc lv rest M' E) →
    mv_WW p l e R s m args below meth c D cA ad X0 A k cells slots Q (pc, lv, st, M)
  | some (Sum.inr (Sum.inr (Sum.inr (Sum.inl (P, v))))) => P → (st = [] ∧ v = none ∧ mv_rt k = none ∧ decode (mv_cod k) pc = .ok (.return_, 1)) ∨ ∃ x : Int32, st = [Sum.inl x] ∧ v = some (Sum.inl x) ∧ decode (mv_cod k) pc = .ok (.ireturn, 1) ∧ ∃ ty : FieldType, mv_rt k = some ty ∧ narrow ty (.int x) = .int x
  | some (Sum.inr (Sum.inr (Sum.inr (Sum.inr E)))) => c.exceptionTable.toList = [] → ∀ (cells slots : Nat) (Qc : Array Value → State → Outcome → State → Prop) (XC : String → State → State → Prop) (mc ms : Nat) (free : Addr → Prop), cells + 1 ≤ mc → slots + 6 ≤ ms → cells + 1 ≤ R.cells → slots + 6 ≤ R.slots →
    (∀ t : State, va_P D vwCl (mv_WS cA ad M) t.heap → va_F A s t → XC (mv_ex E) s t) → (∀ z, A z → free z) →
    mv_WW p l e R s m args below meth c D cA ad X0 A k cells slots (vx_MQ below Qc XC args s mc ms free) (pc, lv, st, M)
def mv_Sim (k pc : Nat) (f : mv_F) : Prop := ∀ {p : Program} {l : Launch} {e : Env} {R : Room} {s : State} {m : MethodId} {args : Array Value} {below : List Frame} {meth : Method} {c : Code} {D : va_G} {cA : Nat → ClassId} {ad : Nat → Nat → Nat} {X0 : mv_M} {A : Nat → Prop}, mv_CX p l s m args meth c D cA ad X0 A k → 8 ≤ R.frames → 200 ≤ R.locals → ∀ (lv : mv_L) (st : List mv_V) (M : mv_M), mv_cl p l e R s m args below meth c D cA ad X0 A k pc lv st M (f lv st M)

section MVS
variable {cc : ByteArray} {k pc nx tg i : Nat}
theorem ms_const {v : Int32} (hc : mv_cod k = cc) (hn : ∀ {p : Program} {l : Launch} {e : Env} {R : Room} {s : State} {m : MethodId} {args : Array Value} {below : List Frame} {meth : Method} {c : Code} {H : Heap} {locs : List Loc} {cells slots : Nat} {Q : State → Prop} {ls : Array Slot} {rest : List Value}, p.tables.exec = Jvm.exec → c.code = cc → (∀ w ∈ mv_W, w.before args s = true) → s.vm.findClass (mv_own k) = some m.cls → W p l e R s m args below meth c H locs cells slots Q (F0 m nx ls (.int v :: rest)) → W p l e R s m args below meth c H locs cells slots Q (F0 m pc ls rest)) : mv_Sim k pc (mi_const nx v) := by
  intro p l e R s m args below meth c D cA ad X0 A C hR1 hR2 lv st M cells slots Q _ hw ls H locs h1 h2 h3
  exact hn C.1 (C.2.1.trans hc) C.2.2.2.2.2.2.1 C.2.2.2.2.2.1 (hw ls H locs h1 h2 h3)
theorem ms_iconst {n : Int} {v : Int32} (hc : mv_cod k = cc) (hd : decode cc pc = .ok (.iconst n, 1)) (hv : Int32.ofInt n = v) (hx : nx = pc + 1) : mv_Sim k pc (mi_const nx v) := by
  subst hx
  exact ms_const hc (fun a b _ _ w => lv_iconst a b hd hv w)
theorem ms_bipush {n : Int} {v : Int32} (hc : mv_cod k = cc) (hd : decode cc pc = .ok (.bipush n, 2)) (hv : (Int8.ofInt n).toInt32 = v) (hx : nx = pc + 2) : mv_Sim k pc (mi_const nx v) := by
  subst hx
  exact ms_const hc (fun a b _ _ w => lv_bipush a b hd hv w)
theorem ms_sipush {n : Int} {v : Int32} (hc : mv_cod k = cc) (hd : decode cc pc = .ok (.sipush n, 3)) (hv : (Int16.ofInt n).toInt32 = v) (hx : nx = pc + 3) : mv_Sim k pc (mi_const nx v) := by
  subst hx
  exact ms_const hc (fun a b _ _ w => lv_sipush a b hd hv w)
theorem ms_ldc {index : Nat} {v : Int32} (hc : mv_cod k = cc) (hd : decode cc pc = .ok (.ldc index, 2)) (hw : Cond.constant (mv_own k) index v ∈ mv_W) (hx : nx = pc + 2) : mv_Sim k pc (mi_const nx v) := by
  subst hx
  exact ms_const hc (fun a b t o w => lv_ldc a b o (t _ hw) hd w)
theorem ms_lconst {n : Fin 2} {v : Int32} (hc : mv_cod k = cc) (hd : decode cc pc = .ok (.lconst n, 1)) (hv : Int64.ofNat (n : Nat) = v.toInt64) (hx : nx = pc + 1) : mv_Sim k pc (mi_lconst nx v) := by
  subst hx
  intro p l e R s m args below meth c D cA ad X0 A C hR1 hR2 lv st M cells slots Q _ hw ls H locs h1 h2 h3
  exact lv_lconst C.1 (C.2.1.trans hc) hd hv (hw ls H locs h1 h2 h3)
theorem ms_iload (hc : mv_cod k = cc) (hd : (∃ q : Fin 4, decode cc pc = .ok (.iload_n q, 1) ∧ (q : Nat) = i ∧ nx = pc + 1) ∨ (decode cc pc = .ok (.iload i, 2) ∧ nx = pc + 2)) : mv_Sim k pc (mi_iload nx i) := by
  intro p l e R s m args below meth c D cA ad X0 A C hR1 hR2 lv st M
  unfold mi_iload
  split
  · next x hx =>
    intro cells slots Q _ hw ls H locs h1 h2 h3
    rcases hd with ⟨q, hd, hq, rfl⟩ | ⟨hd, rfl⟩
    · exact lv_iload_n C.1 (C.2.1.trans hc) hd hq (h2.2.2 _ _ hx).1 (hw ls H locs h1 h2 h3)
    · exact lv_iload C.1 (C.2.1.trans hc) hd (h2.2.2 _ _ hx).1 (hw ls H locs h1 h2 h3)
  · trivial
theorem ms_aload (hc : mv_cod k = cc) (hd : (∃ q : Fin 4, decode cc pc = .ok (.aload_n q, 1) ∧ (q : Nat) = i ∧ nx = pc + 1) ∨ (decode cc pc = .ok (.aload i, 2) ∧ nx = pc + 2)) : mv_Sim k pc (mi_aload nx i) := by
  intro p l e R s m args below meth c D cA ad X0 A C hR1 hR2 lv st M
  unfold mi_aload
  split
  · next x hx =>
    intro cells slots Q _ hw ls H locs h1 h2 h3
    rcases hd with ⟨q, hd, hq, rfl⟩ | ⟨hd, rfl⟩
    · exact lv_aload_n C.1 (C.2.1.trans hc) hd hq (h2.2.2 _ _ hx).1 (hw ls H locs h1 h2 h3)
    · exact lv_aload C.1 (C.2.1.trans hc) hd (h2.2.2 _ _ hx).1 (hw ls H locs h1 h2 h3)
  · trivial
theorem ms_istore (hc : mv_cod k = cc) (hd : (∃ q : Fin 4, decode cc pc = .ok (.istore_n q, 1) ∧ (q : Nat) = i ∧ nx = pc + 1) ∨ (decode cc pc = .ok (.istore i, 2) ∧ nx = pc + 2)) : mv_Sim k pc (mi_istore nx i) := by
  intro p l e R s m args below meth c D cA ad X0 A C hR1 hR2 lv st M
  unfold mi_istore
  split
  · next x st1 y hy =>
    intro cells slots Q _ hw ls H locs h1 h2 h3
    have hi : i < lv.length := (List.getElem?_eq_some_iff.mp hy).1
    rcases hd with ⟨q, hd, hq, rfl⟩ | ⟨hd, rfl⟩
    · exact lv_istore_n C.1 (C.2.1.trans hc) hd hq h2.has hi rfl (fun ls hl => hw ls H locs ((List.length_set ..).trans h1) (h2.put (v := Sum.inl x) hi rfl hl) h3)
    · exact lv_istore C.1 (C.2.1.trans hc) hd h2.has hi rfl (fun ls hl => hw ls H locs ((List.length_set ..).trans h1) (h2.put (v := Sum.inl x) hi rfl hl) h3)
  · trivial
theorem ms_astore (hc : mv_cod k = cc) (hd : (∃ q : Fin 4, decode cc pc = .ok (.astore_n q, 1) ∧ (q : Nat) = i ∧ nx = pc + 1) ∨ (decode cc pc = .ok (.astore i, 2) ∧ nx = pc + 2)) : mv_Sim k pc (mi_astore nx i) := by
  intro p l e R s m args below meth c D cA ad X0 A C hR1 hR2 lv st M
  unfold mi_astore
  split
  · next x st1 y hy =>
    intro cells slots Q _ hw ls H locs h1 h2 h3
    have hi : i < lv.length := (List.getElem?_eq_some_iff.mp hy).1
    rcases hd with ⟨q, hd, hq, rfl⟩ | ⟨hd, rfl⟩
    · exact lv_astore_n C.1 (C.2.1.trans hc) hd hq h2.has hi rfl (fun ls hl => hw ls H locs ((List.length_set ..).trans h1) (h2.put (v := Sum.inr (Sum.inl x)) hi rfl hl) h3)
    · exact lv_astore C.1 (C.2.1.trans hc) hd h2.has hi rfl (fun ls hl => hw ls H locs ((List.length_set ..).trans h1) (h2.put (v := Sum.inr (Sum.inl x)) hi rfl hl) h3)
  · trivial
theorem ms_iinc {n : Int} {v : Int32} (hc : mv_cod k = cc) (hd : decode cc pc = .ok (.iinc i n, 3)) (hv : Int32.ofInt n = v) (hx : nx = pc + 3) : mv_Sim k pc (mi_iinc nx i v) := by
  subst hx
  subst hv
  intro p l e R s m args below meth c D cA ad X0 A C hR1 hR2 lv st M
  unfold mi_iinc
  split
  · next x hy =>
    intro cells slots Q _ hw ls H locs h1 h2 h3
    have hi : i < lv.length := (List.getElem?_eq_some_iff.mp hy).1
    obtain ⟨kk, hkk⟩ := List.getElem?_of_mem (mv_lvl_mem (ad := ad).mpr ⟨_, hy, rfl⟩)
    exact lv_iinc C.1 (C.2.1.trans hc) hd h2.has hkk rfl hi rfl (fun ls hl => hw ls H locs ((List.length_set ..).trans h1) (h2.put (v := Sum.inl (x + Int32.ofInt n)) hi rfl hl) h3)
  · trivial
theorem ms_bin {f : Int32 → Int32 → Int32} (hc : mv_cod k = cc) (hn : ∀ {p : Program} {l : Launch} {e : Env} {R : Room} {s : State} {m : MethodId} {args : Array Value} {below : List Frame} {meth : Method} {c : Code} {H : Heap} {locs : List Loc} {cells slots : Nat} {Q : State → Prop} {ls : Array Slot} {rest : List Value} {x y : Int32}, p.tables.exec = Jvm.exec → c.code = cc → W p l e R s m args below meth c H locs cells slots Q (F0 m nx ls (.int (f x y) :: rest)) → W p l e R s m args below meth c H locs cells slots Q (F0 m pc ls (.int y :: .int x :: rest))) : mv_Sim k pc (mi_bin nx f) := by
  intro p l e R s m args below meth c D cA ad X0 A C hR1 hR2 lv st M
  unfold mi_bin
  split
  · intro cells slots Q _ hw ls H locs h1 h2 h3
    exact hn C.1 (C.2.1.trans hc) (hw ls H locs h1 h2 h3)
  · trivial
theorem ms_iadd (hc : mv_cod k = cc) (hd : decode cc pc = .ok (.iadd, 1)) (hx : nx = pc + 1) : mv_Sim k pc (mi_bin nx mb_iadd) := by subst hx; exact ms_bin hc (fun a b w => lv_iadd a b hd w)
theorem ms_isub (hc : mv_cod k = cc) (hd : decode cc pc = .ok (.isub, 1)) (hx : nx = pc + 1) : mv_Sim k pc (mi_bin nx mb_isub) := by subst hx; exact ms_bin hc (fun a b w => lv_isub a b hd w)
theorem ms_imul (hc : mv_cod k = cc) (hd : decode cc pc = .ok (.imul, 1)) (hx : nx = pc + 1) : mv_Sim k pc (mi_bin nx mb_imul) := by subst hx; exact ms_bin hc (fun a b w => lv_imul a b hd w)
theorem ms_iand (hc : mv_cod k = cc) (hd : decode cc pc = .ok (.iand, 1)) (hx : nx = pc + 1) : mv_Sim k pc (mi_bin nx mb_iand) := by subst hx; exact ms_bin hc (fun a b w => lv_iand a b hd w)
theorem ms_ior (hc : mv_cod k = cc) (hd : decode cc pc = .ok (.ior, 1)) (hx : nx = pc + 1) : mv_Sim k pc (mi_bin nx mb_ior) := by subst hx; exact ms_bin hc (fun a b w => lv_ior a b hd w)
theorem ms_ixor (hc : mv_cod k = cc) (hd : decode cc pc = .ok (.ixor, 1)) (hx : nx = pc + 1) : mv_Sim k pc (mi_bin nx mb_ixor) := by subst hx; exact ms_bin hc (fun a b w => lv_ixor a b hd w)
theorem ms_ishl (hc : mv_cod k = cc) (hd : decode cc pc = .ok (.ishl, 1)) (hx : nx = pc + 1) : mv_Sim k pc (mi_bin nx mb_ishl) := by subst hx; exact ms_bin hc (fun a b w => lv_ishl a b hd w)
theorem ms_ishr (hc : mv_cod k = cc) (hd : decode cc pc = .ok (.ishr, 1)) (hx : nx = pc + 1) : mv_Sim k pc (mi_bin nx mb_ishr) := by subst hx; exact ms_bin hc (fun a b w => lv_ishr a b hd w)
theorem ms_ineg (hc : mv_cod k = cc) (hd : decode cc pc = .ok (.ineg, 1)) (hx : nx = pc + 1) : mv_Sim k pc (mi_neg nx) := by
  subst hx
  intro p l e R s m args below meth c D cA ad X0 A C hR1 hR2 lv st M
  unfold mi_neg
  split
  · intro cells slots Q _ hw ls H locs h1 h2 h3
    exact lv_ineg C.1 (C.2.1.trans hc) hd (hw ls H locs h1 h2 h3)
  · trivial
theorem ms_i2l (hc : mv_cod k = cc) (hd : decode cc pc = .ok (.i2l, 1)) (hx : nx = pc + 1) : mv_Sim k pc (mi_i2l nx) := by
  subst hx
  intro p l e R s m args below meth c D cA ad X0 A C hR1 hR2 lv st M
  unfold mi_i2l
  split
  · intro cells slots Q _ hw ls H locs h1 h2 h3
    exact lv_i2l C.1 (C.2.1.trans hc) hd rfl (hw ls H locs h1 h2 h3)
  · trivial
theorem ms_lcmp (hc : mv_cod k = cc) (hd : decode cc pc = .ok (.lcmp, 1)) (hx : nx = pc + 1) : mv_Sim k pc (mi_lcmp nx) := by
  subst hx
  intro p l e R s m args below meth c D cA ad X0 A C hR1 hR2 lv st M
  unfold mi_lcmp
  split
  · intro cells slots Q _ hw ls H locs h1 h2 h3
    exact W.lcmp C.1 (C.2.1.trans hc) hd (hw ls H locs h1 h2 h3)
  · trivial
theorem ms_dup (hc : mv_cod k = cc) (hd : decode cc pc = .ok (.dup, 1)) (hx : nx = pc + 1) : mv_Sim k pc (mi_dup nx) := by
  subst hx
  intro p l e R s m args below meth c D cA ad X0 A C hR1 hR2 lv st M
  unfold mi_dup
  split
  · intro cells slots Q _ hw ls H locs h1 h2 h3
    exact lv_dup C.1 (C.2.1.trans hc) hd rfl (hw ls H locs h1 h2 h3)
  · intro cells slots Q _ hw ls H locs h1 h2 h3
    exact lv_dup C.1 (C.2.1.trans hc) hd rfl (hw ls H locs h1 h2 h3)
  · trivial
theorem ms_dup2 (hc : mv_cod k = cc) (hd : decode cc pc = .ok (.dup2, 1)) (hx : nx = pc + 1) : mv_Sim k pc (mi_dup2 nx) := by
  subst hx
  intro p l e R s m args below meth c D cA ad X0 A C hR1 hR2 lv st M
  unfold mi_dup2
  split
  · intro cells slots Q _ hw ls H locs h1 h2 h3
    exact lv_dup2_11 C.1 (C.2.1.trans hc) hd rfl rfl (hw ls H locs h1 h2 h3)
  · trivial
theorem ms_pop (hc : mv_cod k = cc) (hd : decode cc pc = .ok (.pop, 1)) (hx : nx = pc + 1) : mv_Sim k pc (mi_pop nx) := by
  subst hx
  intro p l e R s m args below meth c D cA ad X0 A C hR1 hR2 lv st M
  unfold mi_pop
  split
  · intro cells slots Q _ hw ls H locs h1 h2 h3
    exact lv_pop C.1 (C.2.1.trans hc) hd rfl (hw ls H locs h1 h2 h3)
  · trivial
theorem ms_if {P Q' : Int32 → Prop} (hc : mv_cod k = cc) (hn : ∀ {p : Program} {l : Launch} {e : Env} {R : Room} {s : State} {m : MethodId} {args : Array Value} {below : List Frame} {meth : Method} {c : Code} {H : Heap} {locs : List Loc} {cells slots : Nat} {Q : State → Prop} {ls : Array Slot} {rest : List Value} {x : Int32}, p.tables.exec = Jvm.exec → c.code = cc → (P x → W p l e R s m args below meth c H locs cells slots Q (F0 m tg ls rest)) → (Q' x → W p l e R s m args below meth c H locs cells slots Q (F0 m nx ls rest)) → W p l e R s m args below meth c H locs cells slots Q (F0 m pc ls (.int x :: rest))) : mv_Sim k pc (mi_if nx tg P Q') := by
  intro p l e R s m args below meth c D cA ad X0 A C hR1 hR2 lv st M
  unfold mi_if
  split
  · intro cells slots Q hw ls H locs h1 h2 h3
    exact hn C.1 (C.2.1.trans hc) (fun h => hw _ List.mem_cons_self h ls H locs h1 h2 h3) (fun h => hw _ (List.mem_cons_of_mem _ List.mem_cons_self) h ls H locs h1 h2 h3)
  · trivial
theorem ms_icmp {P Q' : Int32 → Int32 → Prop} (hc : mv_cod k = cc) (hn : ∀ {p : Program} {l : Launch} {e : Env} {R : Room} {s : State} {m : MethodId} {args : Array Value} {below : List Frame} {meth : Method} {c : Code} {H : Heap} {locs : List Loc} {cells slots : Nat} {Q : State → Prop} {ls : Array Slot} {rest : List Value} {x y : Int32}, p.tables.exec = Jvm.exec → c.code = cc → (P x y → W p l e R s m args below meth c H locs cells slots Q (F0 m tg ls rest)) → (Q' x y → W p l e R s m args below meth c H locs cells slots Q (F0 m nx ls rest)) → W p l e R s m args below meth c H locs cells slots Q (F0 m pc ls (.int y :: .int x :: rest))) : mv_Sim k pc (mi_icmp nx tg P Q') := by
  intro p l e R s m args below meth c D cA ad X0 A C hR1 hR2 lv st M
  unfold mi_icmp
  split
  · intro cells slots Q hw ls H locs h1 h2 h3
    exact hn C.1 (C.2.1.trans hc) (fun h => hw _ List.mem_cons_self h ls H locs h1 h2 h3) (fun h => hw _ (List.mem_cons_of_mem _ List.mem_cons_self) h ls H locs h1 h2 h3)
  · trivial
theorem ms_if_eq {off : Int} (hc : mv_cod k = cc) (hd : decode cc pc = .ok (.ifCond .eq off, 3)) (ht : (pc : Int) + off = (tg : Int)) (hx : nx = pc + 3) : mv_Sim k pc (mi_if nx tg mb_eq mb_neq) := by subst hx; exact ms_if hc (fun a b w1 w2 => lv_if_eq a b hd ht w1 w2)
theorem ms_icmp_eq {off : Int} (hc : mv_cod k = cc) (hd : decode cc pc = .ok (.if_icmp .eq off, 3)) (ht : (pc : Int) + off = (tg : Int)) (hx : nx = pc + 3) : mv_Sim k pc (mi_icmp nx tg mc_eq mc_neq) := by subst hx; exact ms_icmp hc (fun a b w1 w2 => lv_icmp_eq a b hd ht w1 w2)
theorem ms_if_ne {off : Int} (hc : mv_cod k = cc) (hd : decode cc pc = .ok (.ifCond .ne off, 3)) (ht : (pc : Int) + off = (tg : Int)) (hx : nx = pc + 3) : mv_Sim k pc (mi_if nx tg mb_ne mb_nne) := by subst hx; exact ms_if hc (fun a b w1 w2 => lv_if_ne a b hd ht w1 w2)
theorem ms_icmp_ne {off : Int} (hc : mv_cod k = cc) (hd : decode cc pc = .ok (.if_icmp .ne off, 3)) (ht : (pc : Int) + off = (tg : Int)) (hx : nx = pc + 3) : mv_Sim k pc (mi_icmp nx tg mc_ne mc_nne) := by subst hx; exact ms_icmp hc (fun a b w1 w2 => lv_icmp_ne a b hd ht w1 w2)
theorem ms_if_lt {off : Int} (hc : mv_cod k = cc) (hd : decode cc pc = .ok (.ifCond .lt off, 3)) (ht : (pc : Int) + off = (tg : Int)) (hx : nx = pc + 3) : mv_Sim k pc (mi_if nx tg mb_lt mb_nlt) := by subst hx; exact ms_if hc (fun a b w1 w2 => lv_if_lt a b hd ht w1 w2)
theorem ms_icmp_lt {off : Int} (hc : mv_cod k = cc) (hd : decode cc pc = .ok (.if_icmp .lt off, 3)) (ht : (pc : Int) + off = (tg : Int)) (hx : nx = pc + 3) : mv_Sim k pc (mi_icmp nx tg mc_lt mc_nlt) := by subst hx; exact ms_icmp hc (fun a b w1 w2 => lv_icmp_lt a b hd ht w1 w2)
theorem ms_if_ge {off : Int} (hc : mv_cod k = cc) (hd : decode cc pc = .ok (.ifCond .ge off, 3)) (ht : (pc : Int) + off = (tg : Int)) (hx : nx = pc + 3) : mv_Sim k pc (mi_if nx tg mb_ge mb_nge) := by subst hx; exact ms_if hc (fun a b w1 w2 => lv_if_ge a b hd ht w1 w2)
theorem ms_icmp_ge {off : Int} (hc : mv_cod k = cc) (hd : decode cc pc = .ok (.if_icmp .ge off, 3)) (ht : (pc : Int) + off = (tg : Int)) (hx : nx = pc + 3) : mv_Sim k pc (mi_icmp nx tg mc_ge mc_nge) := by subst hx; exact ms_icmp hc (fun a b w1 w2 => lv_icmp_ge a b hd ht w1 w2)
theorem ms_if_gt {off : Int} (hc : mv_cod k = cc) (hd : decode cc pc = .ok (.ifCond .gt off, 3)) (ht : (pc : Int) + off = (tg : Int)) (hx : nx = pc + 3) : mv_Sim k pc (mi_if nx tg mb_gt mb_ngt) := by subst hx; exact ms_if hc (fun a b w1 w2 => lv_if_gt a b hd ht w1 w2)
theorem ms_icmp_gt {off : Int} (hc : mv_cod k = cc) (hd : decode cc pc = .ok (.if_icmp .gt off, 3)) (ht : (pc : Int) + off = (tg : Int)) (hx : nx = pc + 3) : mv_Sim k pc (mi_icmp nx tg mc_gt mc_ngt) := by subst hx; exact ms_icmp hc (fun a b w1 w2 => lv_icmp_gt a b hd ht w1 w2)
theorem ms_if_le {off : Int} (hc : mv_cod k = cc) (hd : decode cc pc = .ok (.ifCond .le off, 3)) (ht : (pc : Int) + off = (tg : Int)) (hx : nx = pc + 3) : mv_Sim k pc (mi_if nx tg mb_le mb_nle) := by subst hx; exact ms_if hc (fun a b w1 w2 => lv_if_le a b hd ht w1 w2)
theorem ms_icmp_le {off : Int} (hc : mv_cod k = cc) (hd : decode cc pc = .ok (.if_icmp .le off, 3)) (ht : (pc : Int) + off = (tg : Int)) (hx : nx = pc + 3) : mv_Sim k pc (mi_icmp nx tg mc_le mc_nle) := by subst hx; exact ms_icmp hc (fun a b w1 w2 => lv_icmp_le a b hd ht w1 w2)
theorem ms_goto {off : Int} (hc : mv_cod k = cc) (hd : decode cc pc = .ok (.goto off, 3)) (ht : (pc : Int) + off = (tg : Int)) : mv_Sim k pc (mi_goto tg) := by
  intro p l e R s m args below meth c D cA ad X0 A C hR1 hR2 lv st M cells slots Q _ hw ls H locs h1 h2 h3
  exact lv_goto C.1 (C.2.1.trans hc) hd ht (hw ls H locs h1 h2 h3)
theorem ms_tsw {ts : List (Int32 × Nat)} {hi : Int32} {d len : Nat} {dflt hi' : Int} {offs : Array Int} (hc : mv_cod k = cc) (hd : decode cc pc = .ok (.tableswitch dflt 0 hi' offs, len)) (hh : hi.toInt = hi') (h0 : (pc : Int) + dflt = (d : Int)) (hts : ∀ j : Nat, j < hi'.toNat + 1 → ∃ (t : Int32 × Nat) (off : Int), t ∈ ts ∧ t.1 = Int32.ofNat j ∧ offs[j]? = some off ∧ (pc : Int) + off = (t.2 : Int)) (hb2 : hi'.toNat < 1000) : mv_Sim k pc (mi_tsw ts hi d) := by
  intro p l e R s m args below meth c D cA ad X0 A C hR1 hR2 lv st M
  unfold mi_tsw
  split
  · next x st1 =>
    intro cells slots Q hw ls H locs h1 h2 h3
    by_cases h : x.toInt < 0 ∨ hi' < x.toInt
    · refine lv_tableOut C.1 (C.2.1.trans hc) hd h h0 ?_
      refine hw _ List.mem_cons_self ?_ ls H locs h1 h2 h3
      show x < 0 ∨ hi < x
      rw [Int32.lt_iff_toInt_lt, Int32.lt_iff_toInt_lt, hh, Int32.toInt_zero]
      exact h
    · have ha : ¬ x.toInt < 0 := fun q => h (Or.inl q)
      have hb : ¬ hi' < x.toInt := fun q => h (Or.inr q)
      obtain ⟨t, off, t1, t2, t3, t4⟩ := hts x.toInt.toNat (by omega)
      have hxt : x = t.1 := by
        rw [t2, ← Int32.toInt_inj]
        show x.toInt = (nI x.toInt.toNat).toInt
        rw [nI_toInt (by omega)]
        omega
      refine lv_tableIn C.1 (C.2.1.trans hc) hd ha hb (by simpa using t3) t4 ?_
      exact hw _ (List.mem_cons_of_mem _ (List.mem_map.mpr ⟨t, t1, rfl⟩)) hxt ls H locs h1 h2 h3
  · trivial
theorem ms_iret (hc : mv_cod k = cc) (hd : decode cc pc = .ok (.ireturn, 1)) (hr : mv_rt k = some .int) : mv_Sim k pc mi_iret := by
  intro p l e R s m args below meth c D cA ad X0 A C hR1 hR2 lv st M
  unfold mi_iret
  split
  · next x =>
    intro _
    exact Or.inr ⟨x, rfl, rfl, by rw [hc]; exact hd, .int, hr, rfl⟩
  · trivial
theorem ms_zret (hc : mv_cod k = cc) (hd : decode cc pc = .ok (.ireturn, 1)) (hr : mv_rt k = some .boolean) : mv_Sim k pc mi_zret := by
  intro p l e R s m args below meth c D cA ad X0 A C hR1 hR2 lv st M
  unfold mi_zret
  split
  · next x =>
    intro hx
    refine Or.inr ⟨x, rfl, rfl, by rw [hc]; exact hd, .boolean, hr, ?_⟩
    rcases hx with rfl | rfl <;> decide
  · trivial
theorem ms_vret (hc : mv_cod k = cc) (hd : decode cc pc = .ok (.return_, 1)) (hr : mv_rt k = none) : mv_Sim k pc mi_vret := by
  intro p l e R s m args below meth c D cA ad X0 A C hR1 hR2 lv st M
  unfold mi_vret
  split
  · intro _
    exact Or.inl ⟨rfl, rfl, hr, by rw [hc]; exact hd⟩
  · trivial

theorem mv_obj_cnt {g ci c : Nat} {fs : List (Option Nat)} (h : mv_shp g = some (Sum.inl (ci, fs), c)) : c = 1 := by
  have := List.all_eq_true.mp (show mv_shps.all (fun q => match q.1 with
    | Sum.inl _ => q.2 == 1
    | _ => true) = true by decide +kernel) _ (List.mem_of_getElem? h)
  simpa using this
theorem mv_cel_o {cA : Nat → ClassId} {ad : Nat → Nat → Nat} {g ci c : Nat} {fs : List (Option Nat)} {f : Nat → Int32} (h : mv_shp g = some (Sum.inl (ci, fs), c)) : mv_cel cA ad g f = .inr (ci, mv_flds ad fs f) := by
  unfold mv_cel
  rw [h]
theorem mv_cel_i {cA : Nat → ClassId} {ad : Nat → Nat → Nat} {g n c : Nat} {f : Nat → Int32} (h : mv_shp g = some (Sum.inr (Sum.inl (0, n)), c)) : mv_cel cA ad g f = .inl (cA 0, n, .inl f) := by
  unfold mv_cel
  rw [h]
  rfl
theorem mv_cel_z {cA : Nat → ClassId} {ad : Nat → Nat → Nat} {g n c : Nat} {f : Nat → Int32} (h : mv_shp g = some (Sum.inr (Sum.inl (1, n)), c)) : mv_cel cA ad g f = .inl (cA 1, n, .inl f) := by
  unfold mv_cel
  rw [h]
  rfl
theorem mv_cel_l {cA : Nat → ClassId} {ad : Nat → Nat → Nat} {g n c : Nat} {f : Nat → Int32} (h : mv_shp g = some (Sum.inr (Sum.inl (2, n)), c)) : mv_cel cA ad g f = .inl (cA 2, n, .inr (.inl (fun o => (f o).toInt64))) := by
  unfold mv_cel
  rw [h]
  rfl
theorem mv_cel_r {cA : Nat → ClassId} {ad : Nat → Nat → Nat} {g n c r : Nat} {f : Nat → Int32} (h : mv_shp g = some (Sum.inr (Sum.inr (r, n)), c)) : mv_cel cA ad g f = .inl (cA 3, n, .inr (.inr (.inr (.inr (fun i => if i < n then some (ad r i) else none))))) := by
  unfold mv_cel
  rw [h]
theorem mv_cp_ne {M : mv_M} {g j g' : Nat} {f : Nat → Int32} (h : g' ≠ g) : mv_cp M g j f g' = M g' := by
  funext b
  simp [mv_cp, h]
theorem mv_GH.put {D : va_G} {cA : Nat → ClassId} {ad : Nat → Nat → Nat} {X0 : mv_M} {A : Nat → Prop} {s : State} {M : mv_M} {H1 : Heap} {locs1 : List Loc} {g j q0 : Nat} {x : mv_Sh × Nat} {f : Nat → Int32} (hX : ∀ g : Nat, 50 ≤ g → M g = X0 g) (hs : mv_shp g = some x) (hq : mv_cells[q0]? = some (g, j)) (hP : va_P D vwCl ((mv_WS cA ad M).set q0 (ad g j, mv_cel cA ad g f)) H1) (hS : va_S A s.heap H1 locs1) : mv_GH D cA ad X0 A s (mv_cp M g j f) H1 locs1 := by
  rw [mv_WS_set hq] at hP
  have hlt := mv_shp_lt hs
  exact ⟨hP, hS, fun g' h => (mv_cp_ne (by omega)).trans (hX g' h)⟩
theorem mv_isX_ge {g : Nat} (h : mv_isX g = true) : 50 ≤ g := by
  simp only [mv_isX, Bool.and_eq_true, Nat.ble_eq] at h
  exact h.1
theorem ms_getf_ {index ci f N : Nat} {C : String} {T : u_T} (hc : mv_cod k = cc) (hcl : vwCl[ci]? = some (C, T, N)) (hf : f < N) (hT : (T f).1 = C)
    (hn : ∀ {p : Program} {l : Launch} {e : Env} {R : Room} {s : State} {m : MethodId} {args : Array Value} {below : List Frame} {meth : Method} {c : Code} {D : va_G} {cA : Nat → ClassId} {ad : Nat → Nat → Nat} {X0 : mv_M} {A : Nat → Prop} {H : Heap} {locs : List Loc} {cells slots : Nat} {Q : State → Prop} {ls : Array Slot} {rest : List Value} {ws : va_W} {a q0 : Nat} {fs : List Value} {v : Value}, mv_CX p l s m args meth c D cA ad X0 A k → va_P D vwCl ws H → ws[q0]? = some (a, .inr (ci, fs)) → fs[f]? = some v → W p l e R s m args below meth c H locs cells slots Q (F0 m nx ls (v :: rest)) → W p l e R s m args below meth c H locs cells slots Q (F0 m pc ls (.ref a :: rest))) : mv_Sim k pc (mi_getf nx ci f) := by
  intro p l e R s m args below meth c D cA ad X0 A C hR1 hR2 lv st M
  unfold mi_getf
  split
  · next g st1 =>
    split
    · next c0 fs c1 hs =>
      split
      · next hb =>
        have hce := Nat.eq_of_beq_eq_true hb
        subst hce
        obtain ⟨q0, hq0, hq⟩ := mv_WS_at cA ad M hs (j := 0) (by rw [mv_obj_cnt hs]; exact Nat.zero_lt_one)
        rw [mv_cel_o hs] at hq
        split
        · next r hfs =>
          intro cells slots Q _ hw ls H locs h1 h2 h3
          exact hn C h3.1 hq (mv_flds_get hfs) (hw ls H locs h1 h2 h3)
        · next hfs =>
          intro cells slots Q _ hw ls H locs h1 h2 h3
          exact hn C h3.1 hq (mv_flds_get hfs) (hw ls H locs h1 h2 h3)
        · trivial
      · trivial
    · trivial
  · trivial
theorem ms_getf {index ci f N : Nat} {C : String} {T : u_T} (hc : mv_cod k = cc) (hcl : vwCl[ci]? = some (C, T, N)) (hf : f < N) (hT : (T f).1 = C) (hin : ∀ w ∈ u_ws C T N, w ∈ mv_W) (hl : Cond.fieldLink (mv_own k) index C (T f).2.1 (T f).2.2.1 ∈ mv_W) (hd : decode cc pc = .ok (.getfield index, 3)) (hx : nx = pc + 3) : mv_Sim k pc (mi_getf nx ci f) := by
  subst hx
  refine ms_getf_ (index := index) hc hcl hf hT ?_
  intro p l e R s m args below meth c D cA ad X0 A H locs cells slots Q ls rest ws a q0 fs v C9 hP he hv w
  exact va_get C9.1 (C9.2.1.trans hc) C9.2.2.2.2.2.2.1 hin C9.2.2.2.2.2.1 C9.2.2.2.2.2.2.2.2.1.1 hP q0 he hcl f hf (C9.2.2.2.2.2.2.1 _ hl) (fun _ h9 => by rw [hT] at h9; exact h9) hv hd w
theorem ms_getfN {index ci f N : Nat} {C host : String} {T : u_T} (hc : mv_cod k = cc) (hcl : vwCl[ci]? = some (C, T, N)) (hf : f < N) (hT : (T f).1 = C) (hin : ∀ w ∈ u_ws C T N, w ∈ mv_W) (hl : Cond.fieldLinkNest (mv_own k) index C (T f).2.1 (T f).2.2.1 host ∈ mv_nst) (hd : decode cc pc = .ok (.getfield index, 3)) (hx : nx = pc + 3) : mv_Sim k pc (mi_getf nx ci f) := by
  subst hx
  refine ms_getf_ (index := index) hc hcl hf hT ?_
  intro p l e R s m args below meth c D cA ad X0 A H locs cells slots Q ls rest ws a q0 fs v C9 hP he hv w
  exact va_getN C9.1 (C9.2.1.trans hc) C9.2.2.2.2.2.2.1 hin C9.2.2.2.2.2.1 C9.2.2.2.2.2.2.2.2.1.1 hP q0 he hcl f hf (va_Nw.use rfl (C9.2.2.2.2.2.2.2.2.1.2.1 _ hl)) (fun _ h9 => by rw [hT] at h9; exact h9) hv hd w
theorem ms_putf_ {ci f : Nat} (hn : ∀ {p : Program} {l : Launch} {e : Env} {R : Room} {s : State} {m : MethodId} {args : Array Value} {below : List Frame} {meth : Method} {c : Code} {D : va_G} {cA : Nat → ClassId} {ad : Nat → Nat → Nat} {X0 : mv_M} {A : Nat → Prop} {H : Heap} {locs : List Loc} {cells slots : Nat} {Q : State → Prop} {ls : Array Slot} {rest : List Value} {ws : va_W} {a q0 : Nat} {fs : List Value} {x : Int32}, mv_CX p l s m args meth c D cA ad X0 A k → va_P D vwCl ws H → va_D A ws → va_S A s.heap H locs → ws[q0]? = some (a, .inr (ci, fs)) → f < fs.length → (∀ (H1 : Heap) (locs1 : List Loc), va_P D vwCl (ws.set q0 (a, .inr (ci, fs.set f (.int x)))) H1 → va_D A (ws.set q0 (a, .inr (ci, fs.set f (.int x)))) → va_S A s.heap H1 locs1 → W p l e R s m args below meth c H1 locs1 cells slots Q (F0 m nx ls rest)) → W p l e R s m args below meth c H locs cells slots Q (F0 m pc ls (.int x :: .ref a :: rest))) : mv_Sim k pc (mi_putf nx ci f) := by
  intro p l e R s m args below meth c D cA ad X0 A C hR1 hR2 lv st M
  unfold mi_putf
  split
  · next x g st1 =>
    split
    · next c0 fs c1 hs =>
      split
      · next hb =>
        have hce := Nat.eq_of_beq_eq_true hb
        subst hce
        obtain ⟨q0, hq0, hq⟩ := mv_WS_at cA ad M hs (j := 0) (by rw [mv_obj_cnt hs]; exact Nat.zero_lt_one)
        rw [mv_cel_o hs] at hq
        split
        · next hfs =>
          intro cells slots Q _ hw ls H locs h1 h2 h3
          refine hn C h3.1 (C.2.2.2.2.2.2.2.2.2.2 M) h3.2.1 hq (by rw [mv_flds_len]; exact (List.getElem?_eq_some_iff.mp hfs).1) (fun H1 locs1 hP1 _ hS1 => ?_)
          rw [mv_flds_set hfs, ← mv_cel_o (cA := cA) hs] at hP1
          exact hw ls H1 locs1 h1 h2 (mv_GH.put h3.2.2 hs hq0 hP1 hS1)
        · trivial
      · trivial
    · trivial
  · trivial
theorem ms_putf {index ci f N : Nat} {C : String} {T : u_T} {ty0 : Nat → FieldType} (hc : mv_cod k = cc) (hcl : vwCl[ci]? = some (C, T, N)) (hf : f < N) (hT : (T f).1 = C) (hin : ∀ w ∈ u_ws C T N, w ∈ mv_W) (hty : ∀ k, k < N → parseFieldDescriptor (T k).2.2.1 = some (ty0 k)) (hnm : ∀ a, a < N → ∀ b, b < N → a ≠ b → (T a).2.1 ≠ (T b).2.1) (hfin : (T f).2.2.2 = false) (hde : parseFieldDescriptor (T f).2.2.1 = some .int) (hl : Cond.fieldLink (mv_own k) index C (T f).2.1 (T f).2.2.1 ∈ mv_W) (hd : decode cc pc = .ok (.putfield index, 3)) (hx : nx = pc + 3) : mv_Sim k pc (mi_putf nx ci f) := by
  subst hx
  refine ms_putf_ ?_
  intro p l e R s m args below meth c D cA ad X0 A H locs cells slots Q ls rest ws a q0 fs x C9 hP hD hS he hlen w
  exact va_put C9.1 (C9.2.1.trans hc) C9.2.2.2.2.2.2.1 hin ty0 hty hnm C9.2.2.2.2.2.1 C9.2.2.2.2.2.2.2.2.1.1 hP hD hS q0 he hcl f hf (C9.2.2.2.2.2.2.1 _ hl) (fun _ h9 => by rw [hT] at h9; exact h9) hfin hde rfl rfl hlen hd w
theorem ms_putfN {index ci f N : Nat} {C host : String} {T : u_T} {ty0 : Nat → FieldType} (hc : mv_cod k = cc) (hcl : vwCl[ci]? = some (C, T, N)) (hf : f < N) (hT : (T f).1 = C) (hin : ∀ w ∈ u_ws C T N, w ∈ mv_W) (hty : ∀ k, k < N → parseFieldDescriptor (T k).2.2.1 = some (ty0 k)) (hnm : ∀ a, a < N → ∀ b, b < N → a ≠ b → (T a).2.1 ≠ (T b).2.1) (hfin : (T f).2.2.2 = false) (hde : parseFieldDescriptor (T f).2.2.1 = some .int) (hl : Cond.fieldLinkNest (mv_own k) index C (T f).2.1 (T f).2.2.1 host ∈ mv_nst) (hd : decode cc pc = .ok (.putfield index, 3)) (hx : nx = pc + 3) : mv_Sim k pc (mi_putf nx ci f) := by
  subst hx
  refine ms_putf_ ?_
  intro p l e R s m args below meth c D cA ad X0 A H locs cells slots Q ls rest ws a q0 fs x C9 hP hD hS he hlen w
  exact va_putN C9.1 (C9.2.1.trans hc) C9.2.2.2.2.2.2.1 hin ty0 hty hnm C9.2.2.2.2.2.1 C9.2.2.2.2.2.2.2.2.1.1 hP hD hS q0 he hcl f hf (va_Nw.use rfl (C9.2.2.2.2.2.2.2.2.1.2.1 _ hl)) (fun _ h9 => by rw [hT] at h9; exact h9) hfin hde rfl rfl hlen hd w
theorem ms_iald (hc : mv_cod k = cc) (hd : decode cc pc = .ok (.iaload, 1)) (hx : nx = pc + 1) : mv_Sim k pc (mi_iald nx) := by
  subst hx
  intro p l e R s m args below meth c D cA ad X0 A C hR1 hR2 lv st M
  unfold mi_iald
  split
  · next x g j st1 =>
    split
    · next n c1 hs =>
      intro cells slots Q hp hw ls H locs h1 h2 h3
      obtain ⟨q0, hq0, hq⟩ := mv_WS_at cA ad M hs hp.2
      rw [mv_cel_i hs] at hq
      exact va_iald C.1 (C.2.1.trans hc) C.2.2.2.2.2.2.2.2.1.1 h3.1 q0 0 hq rfl hp.1 hd (hw ls H locs h1 h2 h3)
    · split
      · next hg =>
        intro cells slots Q hp hw ls H locs h1 h2 h3
        obtain ⟨hpi, rfl⟩ := hp
        obtain ⟨x1, x2, x3⟩ := C.2.2.2.2.2.2.2.2.1.2.2.2.2.2.2.2 g hg
        have e1 : M g = X0 g := h3.2.2 g (mv_isX_ge hg)
        have e2 : mv_xl M g = mv_xl X0 g := by
          have e60 : M 60 = X0 60 := h3.2.2 60 (by omega)
          unfold mv_xl
          rw [e60]
        rw [← e1, ← e2] at x1
        exact vX_sld C.1 (C.2.1.trans hc) x1 x2 x3 h3.2.1 hpi hd (hw ls H locs h1 h2 h3)
      · trivial
    · trivial
  · trivial
theorem ms_zald (hc : mv_cod k = cc) (hd : decode cc pc = .ok (.baload, 1)) (hx : nx = pc + 1) : mv_Sim k pc (mi_zald nx) := by
  subst hx
  intro p l e R s m args below meth c D cA ad X0 A C hR1 hR2 lv st M
  unfold mi_zald
  split
  · next x g j st1 =>
    split
    · next n c1 hs =>
      intro cells slots Q hp hw ls H locs h1 h2 h3
      obtain ⟨q0, hq0, hq⟩ := mv_WS_at cA ad M hs hp.2
      rw [mv_cel_z hs] at hq
      exact va_zald C.1 (C.2.1.trans hc) C.2.2.2.2.2.2.2.2.1.1 h3.1 q0 1 hq rfl hp.1 hd (hw ls H locs h1 h2 h3)
    · trivial
  · trivial
theorem ms_lald (hc : mv_cod k = cc) (hd : decode cc pc = .ok (.laload, 1)) (hx : nx = pc + 1) : mv_Sim k pc (mi_lald nx) := by
  subst hx
  intro p l e R s m args below meth c D cA ad X0 A C hR1 hR2 lv st M
  unfold mi_lald
  split
  · next x g j st1 =>
    split
    · next n c1 hs =>
      intro cells slots Q hp hw ls H locs h1 h2 h3
      obtain ⟨q0, hq0, hq⟩ := mv_WS_at cA ad M hs hp.2
      rw [mv_cel_l hs] at hq
      exact va_lald C.1 (C.2.1.trans hc) C.2.2.2.2.2.2.2.2.1.1 h3.1 q0 2 hq rfl hp.1 hd (hw ls H locs h1 h2 h3)
    · trivial
  · trivial
theorem ms_aald (hc : mv_cod k = cc) (hd : decode cc pc = .ok (.aaload, 1)) (hx : nx = pc + 1) : mv_Sim k pc (mi_aald nx) := by
  subst hx
  intro p l e R s m args below meth c D cA ad X0 A C hR1 hR2 lv st M
  unfold mi_aald
  split
  · next x g j st1 =>
    split
    · next r n c1 hs =>
      intro cells slots Q hp hw ls H locs h1 h2 h3
      obtain ⟨q0, hq0, hq⟩ := mv_WS_at cA ad M hs hp.2
      rw [mv_cel_r hs] at hq
      have hlt : x.toNatClampNeg < n := Nat.not_le.mp fun q => hp.1 (Or.inr q)
      refine W.aald (v := .ref (ad r x.toNatClampNeg)) (ty := .array .int) C.1 (C.2.1.trans hc) (h3.1 q0 _ hq) ((C.2.2.2.2.2.2.2.2.1.1.2 3 _ rfl).1 n (fun j => va_rf (if j < n then some (ad r j) else none))) rfl (fun q => by cases q) (by show ¬ (x < 0 ∨ (arrV _ _ _).slots.size ≤ _); rw [arrV_size]; exact hp.1) (by show (arrV _ _ _).slots[_]? = _; rw [arrV_read _ _ hlt]; show some (va_rf (if x.toNatClampNeg < n then some (ad r x.toNatClampNeg) else none)) = _; rw [if_pos hlt]; rfl) rfl rfl hd ?_
      exact hw ls H locs h1 h2 h3
    · trivial
  · trivial
theorem ms_iast (hc : mv_cod k = cc) (hd : decode cc pc = .ok (.iastore, 1)) (hx : nx = pc + 1) : mv_Sim k pc (mi_iast nx) := by
  subst hx
  intro p l e R s m args below meth c D cA ad X0 A C hR1 hR2 lv st M
  unfold mi_iast
  split
  · next v x g j st1 =>
    split
    · next n c1 hs =>
      intro cells slots Q hp hw ls H locs h1 h2 h3
      obtain ⟨q0, hq0, hq⟩ := mv_WS_at cA ad M hs hp.2
      rw [mv_cel_i hs] at hq
      refine va_iast C.1 (C.2.1.trans hc) C.2.2.2.2.2.2.2.2.1.1 h3.1 (C.2.2.2.2.2.2.2.2.2.2 M) h3.2.1 q0 0 hq rfl hp.1 hd (fun H1 locs1 hP1 _ hS1 => ?_)
      rw [← mv_cel_i (cA := cA) (ad := ad) hs] at hP1
      exact hw ls H1 locs1 h1 h2 (mv_GH.put h3.2.2 hs hq0 hP1 hS1)
    · trivial
  · trivial
theorem ms_zast (hc : mv_cod k = cc) (hd : decode cc pc = .ok (.bastore, 1)) (hx : nx = pc + 1) : mv_Sim k pc (mi_zast nx) := by
  subst hx
  intro p l e R s m args below meth c D cA ad X0 A C hR1 hR2 lv st M
  unfold mi_zast
  split
  · next v x g j st1 =>
    split
    · next n c1 hs =>
      intro cells slots Q hp hw ls H locs h1 h2 h3
      obtain ⟨hp, hv⟩ := hp
      obtain ⟨q0, hq0, hq⟩ := mv_WS_at cA ad M hs hp.2
      rw [mv_cel_z hs] at hq
      have hnar : vp_nar .boolean v = v := by rcases hv with rfl | rfl <;> decide
      refine va_zast C.1 (C.2.1.trans hc) C.2.2.2.2.2.2.2.2.1.1 h3.1 (C.2.2.2.2.2.2.2.2.2.2 M) h3.2.1 q0 1 hq rfl hp.1 hd (fun H1 locs1 hP1 _ hS1 => ?_)
      rw [hnar, ← mv_cel_z (cA := cA) (ad := ad) hs] at hP1
      exact hw ls H1 locs1 h1 h2 (mv_GH.put h3.2.2 hs hq0 hP1 hS1)
    · trivial
  · trivial
theorem ms_last (hc : mv_cod k = cc) (hd : decode cc pc = .ok (.lastore, 1)) (hx : nx = pc + 1) : mv_Sim k pc (mi_last nx) := by
  subst hx
  intro p l e R s m args below meth c D cA ad X0 A C hR1 hR2 lv st M
  unfold mi_last
  split
  · next v x g j st1 =>
    split
    · next n c1 hs =>
      intro cells slots Q hp hw ls H locs h1 h2 h3
      obtain ⟨q0, hq0, hq⟩ := mv_WS_at cA ad M hs hp.2
      rw [mv_cel_l hs] at hq
      refine va_last C.1 (C.2.1.trans hc) C.2.2.2.2.2.2.2.2.1.1 h3.1 (C.2.2.2.2.2.2.2.2.2.2 M) h3.2.1 q0 2 hq rfl hp.1 hd (fun H1 locs1 hP1 _ hS1 => ?_)
      have hu : vp_updL (fun o => (M g j o).toInt64) x.toNatClampNeg v.toInt64 = fun o => (upd (M g j) x.toNatClampNeg v o).toInt64 := by
        funext o
        unfold vp_updL upd
        split <;> rfl
      rw [hu, ← mv_cel_l (cA := cA) (ad := ad) (f := upd (M g j) x.toNatClampNeg v) hs] at hP1
      exact hw ls H1 locs1 h1 h2 (mv_GH.put h3.2.2 hs hq0 hP1 hS1)
    · trivial
  · trivial
theorem ms_alen (hc : mv_cod k = cc) (hd : decode cc pc = .ok (.arraylength, 1)) (hx : nx = pc + 1) : mv_Sim k pc (mi_alen nx) := by
  subst hx
  intro p l e R s m args below meth c D cA ad X0 A C hR1 hR2 lv st M
  unfold mi_alen
  split
  · next g j st1 =>
    split
    · next kd n c1 hs =>
      intro cells slots Q hp hw ls H locs h1 h2 h3
      obtain ⟨q0, hq0, hq⟩ := mv_WS_at cA ad M hs hp
      have hkd : kd < 3 := by
        have := List.all_eq_true.mp (show mv_shps.all (fun q => match q.1 with
          | Sum.inr (Sum.inl (kd, _)) => Nat.blt kd 3
          | _ => true) = true by decide +kernel) _ (List.mem_of_getElem? hs)
        simpa using this
      rcases (show kd = 0 ∨ kd = 1 ∨ kd = 2 by omega) with rfl | rfl | rfl
      · rw [mv_cel_i hs] at hq
        exact va_alen C.1 (C.2.1.trans hc) C.2.2.2.2.2.2.2.2.1.1 h3.1 q0 0 hq rfl rfl hd (hw ls H locs h1 h2 h3)
      · rw [mv_cel_z hs] at hq
        exact va_alen C.1 (C.2.1.trans hc) C.2.2.2.2.2.2.2.2.1.1 h3.1 q0 1 hq rfl rfl hd (hw ls H locs h1 h2 h3)
      · rw [mv_cel_l hs] at hq
        exact va_alen C.1 (C.2.1.trans hc) C.2.2.2.2.2.2.2.2.1.1 h3.1 q0 2 hq rfl rfl hd (hw ls H locs h1 h2 h3)
    · split
      · next hg =>
        intro cells slots Q hp hw ls H locs h1 h2 h3
        have hp : j = 0 := hp
        subst hp
        obtain ⟨x1, x2, x3⟩ := C.2.2.2.2.2.2.2.2.1.2.2.2.2.2.2.2 g hg
        have e2 : mv_xl M g = mv_xl X0 g := by
          have e60 : M 60 = X0 60 := h3.2.2 60 (by omega)
          unfold mv_xl
          rw [e60]
        rw [← e2] at x1
        exact vX_slen C.1 (C.2.1.trans hc) x1 x2 x3 h3.2.1 hd (hw ls H locs h1 h2 h3)
      · trivial
    · trivial
  · trivial
theorem ms_gets {index g : Nat} {fn : String} (hc : mv_cod k = cc) (hs : (g, fn) ∈ mv_stas) (hl : Cond.fieldLink (mv_own k) index "ComponentContainer" fn "[I" ∈ mv_W) (hd : decode cc pc = .ok (.getstatic index, 3)) (hx : nx = pc + 3) : mv_Sim k pc (mi_gets nx g) := by
  subst hx
  intro p l e R s m args below meth c D cA ad X0 A C hR1 hR2 lv st M cells slots Q _ hw ls H locs h1 h2 h3
  exact va_gets C.1 (C.2.1.trans hc) (C.2.2.2.2.2.2.2.2.1.2.2.2.2.2.2.1 (g, fn) hs) h3.2.1 C.2.2.2.2.2.1 (C.2.2.2.2.2.2.1 _ hl) (fun _ h => h) hd (hw ls H locs h1 h2 h3)
theorem mv_cats (ad : Nat → Nat → Nat) : ∀ (st : List mv_V), ((st.map (mv_val ad)).map fun v => v.category).sum ≤ 2 * st.length
  | [] => Nat.le_refl _
  | v :: st => by
    have h := mv_cats ad st
    have h1 := lv_cat (mv_val ad v)
    simp only [List.map_cons, List.sum_cons, List.length_cons]
    omega
theorem ms_copy {index : Nat} (hc : mv_cod k = cc) (hl : Cond.methodLink (mv_own k) index arraycopyName ∈ mv_W) (hn : Cond.native arraycopyName ∈ mv_W) (hst : Cond.static arraycopyName ∈ mv_W) (hi : Cond.initialized "java/lang/System" ∈ mv_W) (hR : nativeFrameWords "java/lang/System" "arraycopy" 5 ≤ 100) (hd : decode cc pc = .ok (.invokestatic index, 3)) (hx : nx = pc + 3) : mv_Sim k pc (mi_copy nx) := by
  subst hx
  intro p l e R s m args below meth c D cA ad X0 A C hR1 hR2 lv st M
  unfold mi_copy
  split
  · next n dp g j sp g0 j0 st1 =>
    split
    · next n1 c1 n0 c0 hs hs0 hlen =>
      intro cells slots Q hp hw ls H locs h1 h2 h3
      obtain ⟨⟨p1, p2, p3⟩, ⟨p4, p5⟩, p6, p7⟩ := hp
      obtain ⟨q1, hq1, hq⟩ := mv_WS_at cA ad M hs p6
      obtain ⟨q0, hq0, hqs⟩ := mv_WS_at cA ad M hs0 p7
      rw [mv_cel_i hs] at hq
      rw [mv_cel_i hs0] at hqs
      have hts := C.2.2.2.2.2.2.1
      refine va_copyi C.1 (C.2.1.trans hc) (by rw [h2.1, h1]; exact C.2.2.2.2.1) C.2.2.2.2.2.1 (hts _ hl) (hts _ hn) (hts _ hst) (hts _ hi) C.2.2.2.2.2.2.2.2.1.1 h3.1 (C.2.2.2.2.2.2.2.2.2.2 M) h3.2.1 q0 q1 0 0 hqs hq rfl rfl rfl p1 p2 p3 p4 p5 (fun _ _ => rfl) ?_ ?_ hd (fun H1 locs1 hP1 _ hS1 => ?_)
      · omega
      · have hc9 := mv_cats ad st1
        have hl9 := Nat.le_of_ble_eq_true hlen
        omega
      · rw [← mv_cel_i (cA := cA) (ad := ad) hs] at hP1
        exact hw ls H1 locs1 h1 h2 (mv_GH.put h3.2.2 hs hq1 hP1 hS1)
    · trivial
  · trivial

theorem mv_pop_spec : ∀ {n : Nat} {st acc as rest : List mv_V}, mv_pop n st acc = some (as, rest) → ∃ xs : List mv_V, st = xs ++ rest ∧ xs.length = n ∧ as = xs.reverse ++ acc := by
  intro n
  induction n with
  | zero =>
    intro st acc as rest h
    cases h
    exact ⟨[], rfl, rfl, rfl⟩
  | succ n ih =>
    intro st acc as rest h
    cases st with
    | nil => cases h
    | cons v st =>
      obtain ⟨xs, h1, h2, h3⟩ := ih (show mv_pop n st (v :: acc) = some (as, rest) from h)
      exact ⟨v :: xs, by rw [h1]; rfl, by rw [List.length_cons, h2], by rw [h3]; simp⟩
theorem mv_nst_warm {w : Cond} {s U : State} (hw : w ∈ mv_nst) (hW : s.WarmedH U.vm) (h : va_Nw w s) : va_Nw w U := by
  have hk := (List.mem_filter.mp hw).2
  cases w with
  | fieldLinkNest => exact va_Nw.warmF hW h
  | methodLinkNest => exact va_Nw.warmM hW h
  | castable => exact va_Nw.warmC hW h
  | declares => exact va_Nw.warmD hW h
  | _ => cases hk
theorem mv_nst_tab {w : Cond} (hw : w ∈ mv_nst) : w.onTables = true := by
  have hk := (List.mem_filter.mp hw).2
  cases w with
  | fieldLinkNest => rfl
  | methodLinkNest => rfl
  | castable => rfl
  | declares => rfl
  | _ => cases hk
theorem mv_EX.call {D : va_G} {cA : Nat → ClassId} {ad : Nat → Nat → Nat} {X0 : mv_M} {A B : Nat → Prop} {s U : State} {H : Heap} {locs : List Loc} (h : mv_EX D cA ad X0 A s) (hS : va_S A s.heap H locs) (hW : s.WarmedH U.vm) (hU : U.heap = H) (hAB : ∀ q, B q → A q) : mv_EX D cA ad X0 B U := by
  obtain ⟨h1, h2, h3, h4, h5, h6, h7, h8⟩ := h
  refine ⟨va_K.moved hW.alike h1, fun w hw => mv_nst_warm hw hW (h2 w hw), ?_, ?_, fun t ht => ?_, fun t ht => va_Nc.moved hW.alike (h6 t ht), fun t ht => ?_, fun g hg => ?_⟩
  · rw [hU]; exact (vx_Zq.moved hW.alike (h3.kept hS.2.1)).narrow hAB
  · rw [hU]; exact (vx_Zq.moved hW.alike (h4.kept hS.2.1)).narrow hAB
  · obtain ⟨sa, h⟩ := h5 t ht
    exact ⟨sa, vk_R.warm hW h⟩
  · rw [hU]; exact (va_Z.moved hW.alike ((h7 t ht).kept hS.2.1)).narrow hAB
  · obtain ⟨x1, x2, x3⟩ := h8 g hg
    rw [hU]
    exact ⟨vX_.moved hW.alike (x1.kept (hS.2.1 _ x2 x3)), Nat.lt_of_lt_of_le x2 hS.1, fun q => x3 (hAB _ q)⟩
theorem mv_EX.same {D : va_G} {cA : Nat → ClassId} {ad : Nat → Nat → Nat} {X0 : mv_M} {A : Nat → Prop} {s U : State} (h : mv_EX D cA ad X0 A s) (hv : U.vm = s.vm) (hU : U.heap = s.heap) : mv_EX D cA ad X0 A U := by
  obtain ⟨h1, h2, h3, h4, h5, h6, h7, h8⟩ := h
  have ha : s.vm.Alike U.vm := by rw [hv]; exact Vm.Alike.refl s.vm
  refine ⟨va_K.moved ha h1, fun w hw => va_Nw.same (mv_nst_tab hw) hv.symm (h2 w hw), ?_, ?_, fun t ht => ?_, fun t ht => va_Nc.moved ha (h6 t ht), fun t ht => ?_, fun g hg => ?_⟩
  · rw [hU]; exact vx_Zq.moved ha h3
  · rw [hU]; exact vx_Zq.moved ha h4
  · obtain ⟨sa, h⟩ := h5 t ht
    exact ⟨sa, vk_R.same hv h⟩
  · rw [hU]; exact va_Z.moved ha (h7 t ht)
  · obtain ⟨x1, x2, x3⟩ := h8 g hg
    rw [hU]
    exact ⟨vX_.moved ha x1, x2, x3⟩
theorem mv_Pr_blind {D : va_G} {cA : Nat → ClassId} {ad : Nat → Nat → Nat} {X0 : mv_M} {sz : Nat} {as : List mv_V} {M : mv_M} : FrameBlind (mv_Pr D cA ad X0 sz as M) := fun a U g mk q => by
  obtain ⟨q0, q1, q2, q3, q4, q5⟩ := q
  exact ⟨q0, q1, q2, q3, q4.same rfl rfl, q5⟩
theorem mv_AA_sub {D : va_G} {cA : Nat → ClassId} {ad : Nat → Nat → Nat} {A : Nat → Prop} {H0 H : Heap} {locs : List Loc} (hA : ∀ q : Nat, H0.size ≤ q → A q) (hD : ∀ M : mv_M, va_D A (mv_WS cA ad M)) (hS : va_S A H0 H locs) : ∀ q, mv_AA ad H.size q → A q := by
  intro q h
  rcases h with ⟨c, hc, rfl⟩ | h
  · obtain ⟨i, hi⟩ := List.getElem?_of_mem hc
    have := (hD (fun _ _ _ => 0)).2 i (ad c.1 c.2, mv_cel cA ad c.1 (fun _ => 0)) (by unfold mv_WS; rw [List.getElem?_map, hi]; rfl)
    exact this
  · exact hA q (Nat.le_trans hS.1 h)
theorem mv_AA_D {cA : Nat → ClassId} {ad : Nat → Nat → Nat} {A : Nat → Prop} {sz : Nat} (hD : ∀ M : mv_M, va_D A (mv_WS cA ad M)) (M : mv_M) : va_D (mv_AA ad sz) (mv_WS cA ad M) := (hD M).weaken (fun k q hk _ => Or.inl (mv_WS_addr hk))
theorem mv_Pr_of {p : Program} {l : Launch} {s U : State} {m : MethodId} {args : Array Value} {meth : Method} {c : Code} {D : va_G} {cA : Nat → ClassId} {ad : Nat → Nat → Nat} {X0 : mv_M} {A : Nat → Prop} {M : mv_M} {H : Heap} {locs : List Loc} {as : List mv_V} (C : mv_CX p l s m args meth c D cA ad X0 A k) (h3 : mv_GH D cA ad X0 A s M H locs) (hU : U.heap = H) (hW : s.WarmedH U.vm) : mv_Pr D cA ad X0 H.size as M (as.map (mv_val ad)).toArray U := by
  have hD := C.2.2.2.2.2.2.2.2.2.2
  exact ⟨rfl, by rw [hU], by rw [hU]; exact h3.1, h3.2.2, C.2.2.2.2.2.2.2.2.1.call h3.2.1 hW hU (mv_AA_sub (D := D) C.2.2.2.2.2.2.2.2.2.1 hD h3.2.1), mv_AA_D hD⟩
/-- behind a call -/
theorem mv_after {p : Program} {l : Launch} {e : Env} {R : Room} {s : State} {m : MethodId} {args : Array Value} {below : List Frame} {meth : Method} {c : Code} {D : va_G} {cA : Nat → ClassId} {ad : Nat → Nat → Nat} {X0 : mv_M} {A : Nat → Prop} {lv : mv_L} {rest : List mv_V} {M : mv_M} {cells slots : Nat} {Q : State → Prop} {k' : Nat} {Ψ : mv_O → mv_M → Prop} {ls : Array Slot} {H : Heap} {locs : List Loc} {st : List Value} {a : Array Value}
    (C : mv_CX p l s m args meth c D cA ad X0 A k) (h1 : lv.length = mv_nL k) (h2 : mv_LR ad ls lv) (h3 : mv_GH D cA ad X0 A s M H locs)
    (hr : vx_Run p l e R s m args below meth c H locs cells slots (mv_mc k') (6 * mv_mc k') (F0 m pc ls st) (rest.map (mv_val ad)) (mv_Qc D cA ad X0 (mv_AA ad H.size) Ψ k' a) (mv_XC D cA ad X0 (mv_AA ad H.size) Ψ) (mv_AA ad H.size))
    (hret : ∀ (v : Option mv_V) (M' : mv_M), Ψ (Sum.inl v) M' → mv_WW p l e R s m args below meth c D cA ad X0 A k (cells + mv_mc k') (slots + 6 * mv_mc k') Q (pc + 3, lv, v.toList ++ rest, M'))
    (hthr : ∀ (E : Nat) (M' : mv_M), Ψ (Sum.inr E) M' → mv_VW p l e R s m args below meth c D cA ad X0 A k (cells + mv_mc k') (slots + 6 * mv_mc k') Q pc lv rest M' E) :
    W p l e R s m args below meth c H locs cells slots Q (F0 m pc ls st) := by
  have hAA := mv_AA_sub (D := D) C.2.2.2.2.2.2.2.2.2.1 C.2.2.2.2.2.2.2.2.2.2 h3.2.1
  have hth : ∀ (E : String) (ce : Cell) (q9 : Addr) (u : Nat × mv_M) (t : State) (H1 : Heap) (locs1 : List Loc), t.heap = H1 → s.vm.Alike t.vm → Ψ (Sum.inr u.1) u.2 → (E = mv_ex u.1 ∧ mv_B D cA ad X0 u.2 t) → H.size ≤ H1.size → (∀ q : Nat, q < H.size → ¬ mv_AA ad H.size q → H1[q]? = H[q]?) → va_S A s.heap H1 locs1 → H1[q9]? = some ce → ce.vm = .none → s.vm.findClass E = some ce.cls → vx_W p l e R s m args below meth c H1 locs1 (cells + mv_mc k') (slots + 6 * mv_mc k') Q (F0 m pc ls (rest.map (mv_val ad))) q9 := by
    intro E ce q9 u t H1 locs1 ht _ hp hb _ _ hS1 hce hcv hcl
    obtain ⟨rfl, hb1, hb2⟩ := hb
    rw [ht] at hb1
    exact hthr u.1 u.2 hp ls H1 locs1 q9 ce h1 h2 ⟨hb1, hS1, hb2⟩ hce hcv hcl
  unfold mv_Qc at hr
  cases hrt : mv_rt k' with
  | none =>
    simp only [hrt] at hr
    refine vx_callv hr h3.2.1 (fun q _ h => hAA q h) hAA (fun q _ h => hAA q h) hth (fun u t H1 locs1 ht _ hp hb _ _ hS1 => ?_)
    obtain ⟨hb1, hb2⟩ := hb
    rw [ht] at hb1
    exact hret none u hp ls H1 locs1 h1 h2 ⟨hb1, hS1, hb2⟩
  | some ty =>
    simp only [hrt] at hr
    refine vx_calli hr h3.2.1 (fun q _ h => hAA q h) hAA (fun q _ h => hAA q h) hth (fun r u t H1 locs1 ht _ hp hb _ _ hS1 => ?_)
    obtain ⟨hb1, hb2⟩ := hb
    rw [ht] at hb1
    exact hret (some (Sum.inl r)) u hp ls H1 locs1 h1 h2 ⟨hb1, hS1, hb2⟩
/-- what a call asks of the callee -/
def mv_ok (k' n : Nat) : Prop := k' < 150 ∧ mv_cw k' ∈ mv_W ∧ Cond.initialized (mv_nm k').cls ∈ mv_W ∧ ((mv_nm k').cls ≠ "java/lang/invoke/MethodHandle" ∧ (mv_nm k').cls ≠ "java/lang/invoke/VarHandle") ∧ (parseMethodDescriptor (mv_nm k').desc).map (fun d => d.parameters.length) = some n ∧ mv_nL k' ≤ 45
theorem mv_wd_hold {k' : Nat} {args : Array Value} {s : State} (hts : ∀ w ∈ mv_W, w.before args s = true) (h : mv_cw k' ∈ mv_W) : ∀ w ∈ mv_wd k', ∀ (a' : Array Value) (U : State), s.WarmedH U.vm → w.before a' U = true := by
  intro w hw a' U hW
  have hm : w ∈ mv_W := by
    rcases List.mem_cons.mp hw with rfl | h9
    · exact h
    · exact h9
  exact word_at hW (good_of_word (List.mem_filter.mp hm).2) (hts w hm)
theorem mv_par {x : MethodName} {n : Nat} (h : (parseMethodDescriptor x.desc).map (fun d => d.parameters.length) = some n) : ∀ sig, parseMethodDescriptor x.desc = some sig → n = sig.parameters.length := by
  intro sig hs
  rw [hs] at h
  exact (Option.some.inj h).symm
theorem mv_room9 {d k' : Nat} {R : Room} (h1 : d + 9 ≤ R.frames) (h2 : 64 * d + 264 ≤ R.locals) (h3 : mv_nL k' ≤ 45) : (mv_rm k' d).frames + 1 ≤ R.frames ∧ 8 + (mv_nL k' + 11) + (mv_rm k' d).locals ≤ R.locals := by
  constructor
  · show d + 8 + 1 ≤ _
    omega
  · show 8 + (mv_nL k' + 11) + (64 * d + 200) ≤ _
    omega
theorem ms_callv {k' n ci index N : Nat} {C : String} {T : u_T} (hc : mv_cod k = cc) (ho : mv_ok k' n) (hh : mv_hh k' = []) (hcl : vwCl[ci]? = some (C, T, N)) (hl : Cond.methodLink (mv_own k) index (mv_nm k') ∈ mv_W) (hi : Cond.instanceMethod (mv_nm k') ∈ mv_W) (hse : Cond.selects C (mv_nm k') (mv_nm k') ∈ mv_W) (hd : decode cc pc = .ok (.invokevirtual index, 3)) (hx : nx = pc + 3) : mv_Sim k pc (mi_callv nx k' (n + 1) ci) := by
  subst hx
  obtain ⟨o1, o2, o3, o4, o5, o6⟩ := ho
  have hcw : mv_cw k' = .code (mv_nm k') (mv_cod k') (mv_nL k') (mv_rt k') := by unfold mv_cw; rw [hh]
  intro p l e R s m args below meth c D cA ad X0 A C9 hR1 hR2 lv st M
  unfold mi_callv
  split
  · next g as rest hpop =>
    split
    · next c0 fs c1 hs =>
      split
      · next hb =>
        simp only [Bool.and_eq_true] at hb
        have hce := Nat.eq_of_beq_eq_true hb.1
        subst hce
        refine ⟨o1, ?_⟩
        intro cells slots Q d Ψ hCt f1 f2 f3 f4 hret hthr ls H locs h1 h2 h3
        obtain ⟨q0, hq0, hq⟩ := mv_WS_at cA ad M hs (j := 0) (by rw [mv_obj_cnt hs]; exact Nat.zero_lt_one)
        rw [mv_cel_o hs] at hq
        obtain ⟨xs, e1, e2, e3⟩ := mv_pop_spec hpop
        rw [List.append_nil] at e3
        have hts := C9.2.2.2.2.2.2.1
        have hst : st.map (mv_val ad) = (as.map (mv_val ad)).reverse ++ Value.ref (ad g 0) :: rest.map (mv_val ad) := by
          have e4 : xs = (Sum.inr (Sum.inl (g, 0)) :: as : List mv_V).reverse := by rw [e3, List.reverse_reverse]
          rw [e1, e4, List.map_append, List.map_reverse]
          simp [mv_val]
        have hlen : (as.map (mv_val ad)).length = n := by
          have e5 := congrArg List.length e3
          rw [List.length_reverse, e2, List.length_cons] at e5
          rw [List.length_map]
          omega
        have hrest := Nat.le_of_ble_eq_true hb.2
        have hcats := mv_cats ad rest
        refine mv_after (k' := k') (Ψ := Ψ) (a := (Value.ref (ad g 0) :: as.map (mv_val ad)).toArray) C9 h1 h2 h3 ?_ hret hthr
        exact vx_runV (nL := mv_nL k) (maxL := mv_nL k') (ret := mv_rt k') (bytes := mv_cod k') (index := index) (n := n) (b := ad g 0) (As := as.map (mv_val ad)) (C := C) ⟨C9.1, C9.2.1.trans hc, C9.2.2.2.2.1, C9.2.2.2.2.2.1, hts⟩ (hCt H.size)
          ⟨⟨rfl, rfl, (mv_room9 f1 f2 o6).1, (mv_room9 f1 f2 o6).2, mv_wd_hold hts o2, by rw [← hcw]; exact List.mem_cons_self, by rw [← hcw]; exact hts _ o2, hts _ o3, o4, mv_par o5, hts _ hl⟩, hts _ hi, hts _ hse⟩
          ⟨mv_Pr_blind, va_recv C9.2.2.2.2.2.2.2.2.1.1 h3.1 hcl hq, fun U hU hW => mv_Pr_of (as := Sum.inr (Sum.inl (g, 0)) :: as) C9 h3 hU hW⟩
          rfl hlen (by show ls.size = _; rw [h2.1, h1]) hst (lv_room (by omega)) hd ⟨f3, f4⟩
      · trivial
    · trivial
  · trivial
theorem ms_calls {k' n index : Nat} (hc : mv_cod k = cc) (ho : mv_ok k' n) (hh : mv_hh k' = []) (hl : Cond.methodLink (mv_own k) index (mv_nm k') ∈ mv_W) (hst9 : Cond.static (mv_nm k') ∈ mv_W) (hd : decode cc pc = .ok (.invokestatic index, 3)) (hx : nx = pc + 3) : mv_Sim k pc (mi_calls nx k' n) := by
  subst hx
  obtain ⟨o1, o2, o3, o4, o5, o6⟩ := ho
  have hcw : mv_cw k' = .code (mv_nm k') (mv_cod k') (mv_nL k') (mv_rt k') := by unfold mv_cw; rw [hh]
  intro p l e R s m args below meth c D cA ad X0 A C9 hR1 hR2 lv st M
  unfold mi_calls
  split
  · next as rest hpop =>
    split
    · next hb =>
      refine ⟨o1, ?_⟩
      intro cells slots Q d Ψ hCt f1 f2 f3 f4 hret hthr ls H locs h1 h2 h3
      obtain ⟨xs, e1, e2, e3⟩ := mv_pop_spec hpop
      rw [List.append_nil] at e3
      have hts := C9.2.2.2.2.2.2.1
      have hst : st.map (mv_val ad) = (as.map (mv_val ad)).reverse ++ rest.map (mv_val ad) := by
        have e4 : xs = as.reverse := by rw [e3, List.reverse_reverse]
        rw [e1, e4, List.map_append, List.map_reverse]
      have hlen : (as.map (mv_val ad)).length = n := by rw [List.length_map, e3, List.length_reverse, e2]
      have hrest := Nat.le_of_ble_eq_true hb
      have hcats := mv_cats ad rest
      refine mv_after (k' := k') (Ψ := Ψ) (a := (as.map (mv_val ad)).toArray) C9 h1 h2 h3 ?_ hret hthr
      exact vx_runS (nL := mv_nL k) (maxL := mv_nL k') (ret := mv_rt k') (bytes := mv_cod k') (index := index) (n := n) (As := as.map (mv_val ad)) ⟨C9.1, C9.2.1.trans hc, C9.2.2.2.2.1, C9.2.2.2.2.2.1, hts⟩ (hCt H.size)
        ⟨⟨rfl, rfl, (mv_room9 f1 f2 o6).1, (mv_room9 f1 f2 o6).2, mv_wd_hold hts o2, by rw [← hcw]; exact List.mem_cons_self, by rw [← hcw]; exact hts _ o2, hts _ o3, o4, mv_par o5, hts _ hl⟩, hts _ hst9⟩
        ⟨mv_Pr_blind, fun U hU hW => mv_Pr_of (as := as) C9 h3 hU hW⟩
        rfl hlen (by show ls.size = _; rw [h2.1, h1]) hst (lv_room (by omega)) hd ⟨f3, f4⟩
    · trivial
  · trivial
theorem ms_callsX {k' n index : Nat} (hc : mv_cod k = cc) (ho : mv_ok k' n) (hcw : mv_cw k' = .codeWith (mv_nm k') (mv_cod k') (mv_nL k') (mv_rt k') (mv_hh k')) (hl : Cond.methodLink (mv_own k) index (mv_nm k') ∈ mv_W) (hst9 : Cond.static (mv_nm k') ∈ mv_W) (hd : decode cc pc = .ok (.invokestatic index, 3)) (hx : nx = pc + 3) : mv_Sim k pc (mi_calls nx k' n) := by
  subst hx
  obtain ⟨o1, o2, o3, o4, o5, o6⟩ := ho
  intro p l e R s m args below meth c D cA ad X0 A C9 hR1 hR2 lv st M
  unfold mi_calls
  split
  · next as rest hpop =>
    split
    · next hb =>
      refine ⟨o1, ?_⟩
      intro cells slots Q d Ψ hCt f1 f2 f3 f4 hret hthr ls H locs h1 h2 h3
      obtain ⟨xs, e1, e2, e3⟩ := mv_pop_spec hpop
      rw [List.append_nil] at e3
      have hts := C9.2.2.2.2.2.2.1
      have hst : st.map (mv_val ad) = (as.map (mv_val ad)).reverse ++ rest.map (mv_val ad) := by
        have e4 : xs = as.reverse := by rw [e3, List.reverse_reverse]
        rw [e1, e4, List.map_append, List.map_reverse]
      have hlen : (as.map (mv_val ad)).length = n := by rw [List.length_map, e3, List.length_reverse, e2]
      have hrest := Nat.le_of_ble_eq_true hb
      have hcats := mv_cats ad rest
      refine mv_after (k' := k') (Ψ := Ψ) (a := (as.map (mv_val ad)).toArray) C9 h1 h2 h3 ?_ hret hthr
      exact vx_runSX (hh := mv_hh k') (nL := mv_nL k) (maxL := mv_nL k') (ret := mv_rt k') (bytes := mv_cod k') (index := index) (n := n) (As := as.map (mv_val ad)) ⟨C9.1, C9.2.1.trans hc, C9.2.2.2.2.1, C9.2.2.2.2.2.1, hts⟩ (hCt H.size)
        ⟨⟨rfl, rfl, (mv_room9 f1 f2 o6).1, (mv_room9 f1 f2 o6).2, mv_wd_hold hts o2, by rw [← hcw]; exact List.mem_cons_self⟩, by rw [← hcw]; exact hts _ o2, hts _ o3, o4, mv_par o5, hts _ hl, hts _ hst9⟩
        ⟨mv_Pr_blind, fun U hU hW => mv_Pr_of (as := as) C9 h3 hU hW⟩
        rfl hlen (by show ls.size = _; rw [h2.1, h1]) hst (lv_room (by omega)) hd ⟨f3, f4⟩
    · trivial
  · trivial
theorem ms_callsN {k' n index : Nat} {host : String} (hc : mv_cod k = cc) (ho : mv_ok k' n) (hh : mv_hh k' = []) (hl : Cond.methodLinkNest (mv_own k) index (mv_nm k') host ∈ mv_nst) (hst9 : Cond.static (mv_nm k') ∈ mv_W) (hd : decode cc pc = .ok (.invokestatic index, 3)) (hx : nx = pc + 3) : mv_Sim k pc (mi_calls nx k' n) := by
  subst hx
  obtain ⟨o1, o2, o3, o4, o5, o6⟩ := ho
  have hcw : mv_cw k' = .code (mv_nm k') (mv_cod k') (mv_nL k') (mv_rt k') := by unfold mv_cw; rw [hh]
  intro p l e R s m args below meth c D cA ad X0 A C9 hR1 hR2 lv st M
  unfold mi_calls
  split
  · next as rest hpop =>
    split
    · next hb =>
      refine ⟨o1, ?_⟩
      intro cells slots Q d Ψ hCt f1 f2 f3 f4 hret hthr ls H locs h1 h2 h3
      obtain ⟨xs, e1, e2, e3⟩ := mv_pop_spec hpop
      rw [List.append_nil] at e3
      have hts := C9.2.2.2.2.2.2.1
      have hst : st.map (mv_val ad) = (as.map (mv_val ad)).reverse ++ rest.map (mv_val ad) := by
        have e4 : xs = as.reverse := by rw [e3, List.reverse_reverse]
        rw [e1, e4, List.map_append, List.map_reverse]
      have hlen : (as.map (mv_val ad)).length = n := by rw [List.length_map, e3, List.length_reverse, e2]
      have hrest := Nat.le_of_ble_eq_true hb
      have hcats := mv_cats ad rest
      refine mv_after (k' := k') (Ψ := Ψ) (a := (as.map (mv_val ad)).toArray) C9 h1 h2 h3 ?_ hret hthr
      exact vx_runSN (nL := mv_nL k) (maxL := mv_nL k') (ret := mv_rt k') (bytes := mv_cod k') (index := index) (n := n) (As := as.map (mv_val ad)) ⟨C9.1, C9.2.1.trans hc, C9.2.2.2.2.1, C9.2.2.2.2.2.1, hts⟩ (hCt H.size)
        ⟨⟨⟨rfl, rfl, (mv_room9 f1 f2 o6).1, (mv_room9 f1 f2 o6).2, mv_wd_hold hts o2, by rw [← hcw]; exact List.mem_cons_self⟩, by rw [← hcw]; exact hts _ o2, hts _ o3, o4, mv_par o5, va_Nw.use rfl (C9.2.2.2.2.2.2.2.2.1.2.1 _ hl)⟩, hts _ hst9, trivial⟩
        ⟨mv_Pr_blind, fun U hU hW => mv_Pr_of (as := as) C9 h3 hU hW⟩
        rfl hlen (by show ls.size = _; rw [h2.1, h1]) hst (lv_room (by omega)) hd ⟨f3, f4⟩
    · trivial
  · trivial
def mv_names : List String := ["java/lang/RuntimeException", "java/lang/Exception"]
theorem ms_throw {E ik is ic : Nat} {cls text : String} (hE : mv_ex E = cls) (hc : mv_cod k = cc) (hfit : Bundle.fit cls = true) (hk : Cond.classLink (mv_own k) ik cls ∈ mv_W) (hi : Cond.initialized cls ∈ mv_W) (hs : (mv_own k, is, text) ∈ mv_strs) (hat : ∀ w ∈ vx_atS (mv_own k) ic cls mv_names, w ∈ mv_W ∨ w ∈ mv_nst)
    (d0 : decode cc pc = .ok (.new ik, 3)) (d3 : decode cc (pc + 3) = .ok (.dup, 1)) (d4 : decode cc (pc + 4) = .ok (.ldc is, 2)) (d6 : decode cc (pc + 6) = .ok (.invokespecial ic, 3)) (d9 : decode cc (pc + 9) = .ok (.athrow, 1)) : mv_Sim k pc (mi_throw E) := by
  intro p l e R s m args below meth c D cA ad X0 A C9 hR1 hR2 lv st M
  unfold mi_throw
  split
  · next hlen =>
    intro htab cells slots Qc XC mc ms free g1 g2 g3 g4 hx hf ls H locs h1 h2 h3
    obtain ⟨x1, x2, x3, x4, x5, x6, x7, x8⟩ := C9.2.2.2.2.2.2.2.2.1
    have hts := C9.2.2.2.2.2.2.1
    obtain ⟨sa, hsa⟩ := x5 _ hs
    have hl9 := Nat.le_of_ble_eq_true hlen
    have hc9 := mv_cats ad st
    have hat9 : ∀ w ∈ vx_atS (mv_own k) ic cls mv_names, w.before args s = true := by
      intro w hw
      rcases hat w hw with h | h
      · exact hts _ h
      · exact va_Nw.use (mv_nst_tab h) (x2 _ h)
    have hgood : ∀ w ∈ Cond.classLink (mv_own k) ik cls :: Cond.initialized cls :: vx_atS (mv_own k) ic cls mv_names, vx_ot w = true := by
      intro w hw
      have : w ∈ mv_W ∨ w ∈ mv_nst := by
        rcases List.mem_cons.mp hw with rfl | hw
        · exact Or.inl hk
        · rcases List.mem_cons.mp hw with rfl | hw
          · exact Or.inl hi
          · exact hat w hw
      unfold vx_ot
      rcases this with h | h
      · rw [(List.mem_filter.mp h).2, Bool.or_true]
      · rw [mv_nst_tab h, Bool.true_or]
    refine vx_throwS (A := A) (names := mv_names) (own := mv_own k) (ik := ik) (is := is) (ic := ic) (cls := cls) (text := text) (sa := sa) C9.1 (C9.2.1.trans hc) C9.2.2.2.2.2.2.2.1 C9.2.2.2.2.2.1 hfit (by decide) (hts _ hk) (hts _ hi) hsa hat9 hgood x3 x4 h3.2.1 (by rw [h2.1, h1]; exact C9.2.2.2.2.1.symm) d0 d3 d4 d6 d9 (fun x hx9 => by rw [htab] at hx9; cases hx9) ?_ ?_ g3 g4 C9.2.2.2.1 (fun t _ hsz hk9 => ?_) (fun z hz => hf _ (h3.2.1.2.2 z hz)) g1 g2
    · show 2 + 3 < R.frames
      omega
    · show ((st.map (mv_val ad)).map fun v => v.category).sum + (13 * (2 + 1) + 43) ≤ R.locals
      omega
    · rw [← hE]
      exact hx t (h3.1.kept (fun k9 q9 hq9 => hk9 q9.1 ((h3.1 k9 q9 hq9).lt))) ⟨Nat.le_trans h3.2.1.1 hsz, fun q9 p1 p2 => (hk9 q9 (Nat.lt_of_lt_of_le p1 h3.2.1.1)).trans (h3.2.1.2.1 q9 p1 p2)⟩
  · trivial
end MVS
end
