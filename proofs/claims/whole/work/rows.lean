section
-- ===== PART A: goes FIRST, ahead of the names: the tables' words, and 'selects' of the private methods out of them =====
/-- a private method of a class that the tables say can be made, by its rows of tables_1 -/
def lw_okq (q : MethodName × Nat) : Prop := (q.1.cls ≠ "java/lang/invoke/MethodHandle" ∧ q.1.cls ≠ "java/lang/invoke/VarHandle") ∧ Cond.instantiable q.1.cls q.2 ∈ tables_1 ∧ Cond.privateMethod q.1 ∈ tables_1 ∧ Cond.instanceMethod q.1 ∈ tables_1
theorem lw_p0 : lw_okq (⟨"TaskCores", "coreOf", "(I)LTaskCores$Core;"⟩, 13) := ⟨⟨by decide +kernel, by decide +kernel⟩, List.mem_of_getElem? (i := 14) (by decide +kernel), List.mem_of_getElem? (i := 182) (by decide +kernel), List.mem_of_getElem? (i := 183) (by decide +kernel)⟩
theorem lw_p1 : lw_okq (⟨"TaskCores", "taskOf", "(I)LTaskCores$Task;"⟩, 13) := ⟨⟨by decide +kernel, by decide +kernel⟩, List.mem_of_getElem? (i := 14) (by decide +kernel), List.mem_of_getElem? (i := 295) (by decide +kernel), List.mem_of_getElem? (i := 296) (by decide +kernel)⟩
theorem lw_p2 : lw_okq (⟨"TaskCores", "resourceOf", "(I)LTaskCores$Resource;"⟩, 13) := ⟨⟨by decide +kernel, by decide +kernel⟩, List.mem_of_getElem? (i := 14) (by decide +kernel), List.mem_of_getElem? (i := 307) (by decide +kernel), List.mem_of_getElem? (i := 308) (by decide +kernel)⟩
theorem lw_p3 : lw_okq (⟨"TaskCores", "isToCome", "(J)Z"⟩, 13) := ⟨⟨by decide +kernel, by decide +kernel⟩, List.mem_of_getElem? (i := 14) (by decide +kernel), List.mem_of_getElem? (i := 326) (by decide +kernel), List.mem_of_getElem? (i := 327) (by decide +kernel)⟩
theorem lw_p4 : lw_okq (⟨"TaskCores", "addTelling", "(LTaskCores$Telling;)V"⟩, 13) := ⟨⟨by decide +kernel, by decide +kernel⟩, List.mem_of_getElem? (i := 14) (by decide +kernel), List.mem_of_getElem? (i := 349) (by decide +kernel), List.mem_of_getElem? (i := 350) (by decide +kernel)⟩
theorem lw_p5 : lw_okq (⟨"TaskCores", "activateThoseTold", "()V"⟩, 13) := ⟨⟨by decide +kernel, by decide +kernel⟩, List.mem_of_getElem? (i := 14) (by decide +kernel), List.mem_of_getElem? (i := 390) (by decide +kernel), List.mem_of_getElem? (i := 391) (by decide +kernel)⟩
theorem lw_p6 : lw_okq (⟨"TaskCores", "activateTask", "(LTaskCores$Task;)V"⟩, 13) := ⟨⟨by decide +kernel, by decide +kernel⟩, List.mem_of_getElem? (i := 14) (by decide +kernel), List.mem_of_getElem? (i := 394) (by decide +kernel), List.mem_of_getElem? (i := 395) (by decide +kernel)⟩
theorem lw_p7 : lw_okq (⟨"TaskCores", "startTask", "(LTaskCores$Task;)V"⟩, 13) := ⟨⟨by decide +kernel, by decide +kernel⟩, List.mem_of_getElem? (i := 14) (by decide +kernel), List.mem_of_getElem? (i := 398) (by decide +kernel), List.mem_of_getElem? (i := 399) (by decide +kernel)⟩
theorem lw_p8 : lw_okq (⟨"TaskCores", "makeReady", "(LTaskCores$Task;)V"⟩, 13) := ⟨⟨by decide +kernel, by decide +kernel⟩, List.mem_of_getElem? (i := 14) (by decide +kernel), List.mem_of_getElem? (i := 402) (by decide +kernel), List.mem_of_getElem? (i := 403) (by decide +kernel)⟩
theorem lw_p9 : lw_okq (⟨"TaskCores", "tellCode", "(ILTaskCores$Task;)V"⟩, 13) := ⟨⟨by decide +kernel, by decide +kernel⟩, List.mem_of_getElem? (i := 14) (by decide +kernel), List.mem_of_getElem? (i := 406) (by decide +kernel), List.mem_of_getElem? (i := 407) (by decide +kernel)⟩
theorem lw_p10 : lw_okq (⟨"TaskCores", "takeSteps", "()V"⟩, 13) := ⟨⟨by decide +kernel, by decide +kernel⟩, List.mem_of_getElem? (i := 14) (by decide +kernel), List.mem_of_getElem? (i := 414) (by decide +kernel), List.mem_of_getElem? (i := 415) (by decide +kernel)⟩
theorem lw_p11 : lw_okq (⟨"TaskCores", "taskWithStep", "(LTaskCores$Core;)LTaskCores$Task;"⟩, 13) := ⟨⟨by decide +kernel, by decide +kernel⟩, List.mem_of_getElem? (i := 14) (by decide +kernel), List.mem_of_getElem? (i := 418) (by decide +kernel), List.mem_of_getElem? (i := 419) (by decide +kernel)⟩
theorem lw_p12 : lw_okq (⟨"TaskCores", "choose", "(LTaskCores$Core;)V"⟩, 13) := ⟨⟨by decide +kernel, by decide +kernel⟩, List.mem_of_getElem? (i := 14) (by decide +kernel), List.mem_of_getElem? (i := 426) (by decide +kernel), List.mem_of_getElem? (i := 427) (by decide +kernel)⟩
theorem lw_p13 : lw_okq (⟨"TaskCores", "lockOf", "(I)LTaskCores$Lock;"⟩, 13) := ⟨⟨by decide +kernel, by decide +kernel⟩, List.mem_of_getElem? (i := 14) (by decide +kernel), List.mem_of_getElem? (i := 439) (by decide +kernel), List.mem_of_getElem? (i := 440) (by decide +kernel)⟩
theorem lw_p14 : lw_okq (⟨"TaskCores", "doNextPart", "(LTaskCores$Task;)V"⟩, 13) := ⟨⟨by decide +kernel, by decide +kernel⟩, List.mem_of_getElem? (i := 14) (by decide +kernel), List.mem_of_getElem? (i := 450) (by decide +kernel), List.mem_of_getElem? (i := 451) (by decide +kernel)⟩
theorem lw_p15 : lw_okq (⟨"TaskCores", "endTask", "(LTaskCores$Task;)V"⟩, 13) := ⟨⟨by decide +kernel, by decide +kernel⟩, List.mem_of_getElem? (i := 14) (by decide +kernel), List.mem_of_getElem? (i := 454) (by decide +kernel), List.mem_of_getElem? (i := 455) (by decide +kernel)⟩
def lw_privs_1 : List (MethodName × Nat) := [(⟨"TaskCores", "coreOf", "(I)LTaskCores$Core;"⟩, 13), (⟨"TaskCores", "taskOf", "(I)LTaskCores$Task;"⟩, 13), (⟨"TaskCores", "resourceOf", "(I)LTaskCores$Resource;"⟩, 13), (⟨"TaskCores", "isToCome", "(J)Z"⟩, 13), (⟨"TaskCores", "addTelling", "(LTaskCores$Telling;)V"⟩, 13), (⟨"TaskCores", "activateThoseTold", "()V"⟩, 13), (⟨"TaskCores", "activateTask", "(LTaskCores$Task;)V"⟩, 13), (⟨"TaskCores", "startTask", "(LTaskCores$Task;)V"⟩, 13), (⟨"TaskCores", "makeReady", "(LTaskCores$Task;)V"⟩, 13), (⟨"TaskCores", "tellCode", "(ILTaskCores$Task;)V"⟩, 13), (⟨"TaskCores", "takeSteps", "()V"⟩, 13), (⟨"TaskCores", "taskWithStep", "(LTaskCores$Core;)LTaskCores$Task;"⟩, 13), (⟨"TaskCores", "choose", "(LTaskCores$Core;)V"⟩, 13), (⟨"TaskCores", "lockOf", "(I)LTaskCores$Lock;"⟩, 13), (⟨"TaskCores", "doNextPart", "(LTaskCores$Task;)V"⟩, 13), (⟨"TaskCores", "endTask", "(LTaskCores$Task;)V"⟩, 13)]
theorem lw_r1 : ∀ q ∈ lw_privs_1, lw_okq q := List.forall_mem_cons.mpr ⟨lw_p0, List.forall_mem_cons.mpr ⟨lw_p1, List.forall_mem_cons.mpr ⟨lw_p2, List.forall_mem_cons.mpr ⟨lw_p3, List.forall_mem_cons.mpr ⟨lw_p4, List.forall_mem_cons.mpr ⟨lw_p5, List.forall_mem_cons.mpr ⟨lw_p6, List.forall_mem_cons.mpr ⟨lw_p7, List.forall_mem_cons.mpr ⟨lw_p8, List.forall_mem_cons.mpr ⟨lw_p9, List.forall_mem_cons.mpr ⟨lw_p10, List.forall_mem_cons.mpr ⟨lw_p11, List.forall_mem_cons.mpr ⟨lw_p12, List.forall_mem_cons.mpr ⟨lw_p13, List.forall_mem_cons.mpr ⟨lw_p14, List.forall_mem_cons.mpr ⟨lw_p15, fun _ h => absurd h List.not_mem_nil⟩⟩⟩⟩⟩⟩⟩⟩⟩⟩⟩⟩⟩⟩⟩⟩
theorem lw_p16 : lw_okq (⟨"TaskCores", "freeAll", "(LTaskCores$Task;)Z"⟩, 13) := ⟨⟨by decide +kernel, by decide +kernel⟩, List.mem_of_getElem? (i := 14) (by decide +kernel), List.mem_of_getElem? (i := 458) (by decide +kernel), List.mem_of_getElem? (i := 459) (by decide +kernel)⟩
theorem lw_p17 : lw_okq (⟨"TaskCores", "activateByTask", "(LTaskCores$Task;I)V"⟩, 13) := ⟨⟨by decide +kernel, by decide +kernel⟩, List.mem_of_getElem? (i := 14) (by decide +kernel), List.mem_of_getElem? (i := 466) (by decide +kernel), List.mem_of_getElem? (i := 467) (by decide +kernel)⟩
theorem lw_p18 : lw_okq (⟨"TaskCores", "chain", "(LTaskCores$Task;I)V"⟩, 13) := ⟨⟨by decide +kernel, by decide +kernel⟩, List.mem_of_getElem? (i := 14) (by decide +kernel), List.mem_of_getElem? (i := 470) (by decide +kernel), List.mem_of_getElem? (i := 471) (by decide +kernel)⟩
theorem lw_p19 : lw_okq (⟨"TaskCores", "waitFor", "(LTaskCores$Task;I)V"⟩, 13) := ⟨⟨by decide +kernel, by decide +kernel⟩, List.mem_of_getElem? (i := 14) (by decide +kernel), List.mem_of_getElem? (i := 474) (by decide +kernel), List.mem_of_getElem? (i := 475) (by decide +kernel)⟩
theorem lw_p20 : lw_okq (⟨"TaskCores", "setByTask", "(LTaskCores$Task;II)V"⟩, 13) := ⟨⟨by decide +kernel, by decide +kernel⟩, List.mem_of_getElem? (i := 14) (by decide +kernel), List.mem_of_getElem? (i := 479) (by decide +kernel), List.mem_of_getElem? (i := 480) (by decide +kernel)⟩
theorem lw_p21 : lw_okq (⟨"TaskCores", "setEvents", "(LTaskCores$Task;I)V"⟩, 13) := ⟨⟨by decide +kernel, by decide +kernel⟩, List.mem_of_getElem? (i := 14) (by decide +kernel), List.mem_of_getElem? (i := 487) (by decide +kernel), List.mem_of_getElem? (i := 488) (by decide +kernel)⟩
theorem lw_p22 : lw_okq (⟨"TaskCores", "clearEvents", "(LTaskCores$Task;I)V"⟩, 13) := ⟨⟨by decide +kernel, by decide +kernel⟩, List.mem_of_getElem? (i := 14) (by decide +kernel), List.mem_of_getElem? (i := 491) (by decide +kernel), List.mem_of_getElem? (i := 492) (by decide +kernel)⟩
theorem lw_p23 : lw_okq (⟨"TaskCores", "getResource", "(LTaskCores$Task;LTaskCores$Resource;)V"⟩, 13) := ⟨⟨by decide +kernel, by decide +kernel⟩, List.mem_of_getElem? (i := 14) (by decide +kernel), List.mem_of_getElem? (i := 495) (by decide +kernel), List.mem_of_getElem? (i := 496) (by decide +kernel)⟩
theorem lw_p24 : lw_okq (⟨"TaskCores", "freeResource", "(LTaskCores$Task;LTaskCores$Resource;)V"⟩, 13) := ⟨⟨by decide +kernel, by decide +kernel⟩, List.mem_of_getElem? (i := 14) (by decide +kernel), List.mem_of_getElem? (i := 499) (by decide +kernel), List.mem_of_getElem? (i := 500) (by decide +kernel)⟩
theorem lw_p25 : lw_okq (⟨"TaskCores", "takeLock", "(LTaskCores$Task;LTaskCores$Lock;)V"⟩, 13) := ⟨⟨by decide +kernel, by decide +kernel⟩, List.mem_of_getElem? (i := 14) (by decide +kernel), List.mem_of_getElem? (i := 503) (by decide +kernel), List.mem_of_getElem? (i := 504) (by decide +kernel)⟩
theorem lw_p26 : lw_okq (⟨"TaskCores", "unlock", "(LTaskCores$Task;LTaskCores$Lock;)V"⟩, 13) := ⟨⟨by decide +kernel, by decide +kernel⟩, List.mem_of_getElem? (i := 14) (by decide +kernel), List.mem_of_getElem? (i := 507) (by decide +kernel), List.mem_of_getElem? (i := 508) (by decide +kernel)⟩
theorem lw_p27 : lw_okq (⟨"TaskCores", "putOff", "(LTaskCores$Task;I)V"⟩, 13) := ⟨⟨by decide +kernel, by decide +kernel⟩, List.mem_of_getElem? (i := 14) (by decide +kernel), List.mem_of_getElem? (i := 511) (by decide +kernel), List.mem_of_getElem? (i := 512) (by decide +kernel)⟩
theorem lw_p28 : lw_okq (⟨"TaskCores", "putOn", "(LTaskCores$Task;)V"⟩, 13) := ⟨⟨by decide +kernel, by decide +kernel⟩, List.mem_of_getElem? (i := 14) (by decide +kernel), List.mem_of_getElem? (i := 515) (by decide +kernel), List.mem_of_getElem? (i := 516) (by decide +kernel)⟩
theorem lw_p29 : lw_okq (⟨"TaskCores", "tellIfOffTooLong", "()V"⟩, 13) := ⟨⟨by decide +kernel, by decide +kernel⟩, List.mem_of_getElem? (i := 14) (by decide +kernel), List.mem_of_getElem? (i := 519) (by decide +kernel), List.mem_of_getElem? (i := 520) (by decide +kernel)⟩
theorem lw_p30 : lw_okq (⟨"TaskCores", "quietMicroseconds", "(I)I"⟩, 13) := ⟨⟨by decide +kernel, by decide +kernel⟩, List.mem_of_getElem? (i := 14) (by decide +kernel), List.mem_of_getElem? (i := 523) (by decide +kernel), List.mem_of_getElem? (i := 524) (by decide +kernel)⟩
theorem lw_p31 : lw_okq (⟨"TaskCores", "passMicroseconds", "(I)I"⟩, 13) := ⟨⟨by decide +kernel, by decide +kernel⟩, List.mem_of_getElem? (i := 14) (by decide +kernel), List.mem_of_getElem? (i := 541) (by decide +kernel), List.mem_of_getElem? (i := 542) (by decide +kernel)⟩
def lw_privs_2 : List (MethodName × Nat) := [(⟨"TaskCores", "freeAll", "(LTaskCores$Task;)Z"⟩, 13), (⟨"TaskCores", "activateByTask", "(LTaskCores$Task;I)V"⟩, 13), (⟨"TaskCores", "chain", "(LTaskCores$Task;I)V"⟩, 13), (⟨"TaskCores", "waitFor", "(LTaskCores$Task;I)V"⟩, 13), (⟨"TaskCores", "setByTask", "(LTaskCores$Task;II)V"⟩, 13), (⟨"TaskCores", "setEvents", "(LTaskCores$Task;I)V"⟩, 13), (⟨"TaskCores", "clearEvents", "(LTaskCores$Task;I)V"⟩, 13), (⟨"TaskCores", "getResource", "(LTaskCores$Task;LTaskCores$Resource;)V"⟩, 13), (⟨"TaskCores", "freeResource", "(LTaskCores$Task;LTaskCores$Resource;)V"⟩, 13), (⟨"TaskCores", "takeLock", "(LTaskCores$Task;LTaskCores$Lock;)V"⟩, 13), (⟨"TaskCores", "unlock", "(LTaskCores$Task;LTaskCores$Lock;)V"⟩, 13), (⟨"TaskCores", "putOff", "(LTaskCores$Task;I)V"⟩, 13), (⟨"TaskCores", "putOn", "(LTaskCores$Task;)V"⟩, 13), (⟨"TaskCores", "tellIfOffTooLong", "()V"⟩, 13), (⟨"TaskCores", "quietMicroseconds", "(I)I"⟩, 13), (⟨"TaskCores", "passMicroseconds", "(I)I"⟩, 13)]
theorem lw_r2 : ∀ q ∈ lw_privs_2, lw_okq q := List.forall_mem_cons.mpr ⟨lw_p16, List.forall_mem_cons.mpr ⟨lw_p17, List.forall_mem_cons.mpr ⟨lw_p18, List.forall_mem_cons.mpr ⟨lw_p19, List.forall_mem_cons.mpr ⟨lw_p20, List.forall_mem_cons.mpr ⟨lw_p21, List.forall_mem_cons.mpr ⟨lw_p22, List.forall_mem_cons.mpr ⟨lw_p23, List.forall_mem_cons.mpr ⟨lw_p24, List.forall_mem_cons.mpr ⟨lw_p25, List.forall_mem_cons.mpr ⟨lw_p26, List.forall_mem_cons.mpr ⟨lw_p27, List.forall_mem_cons.mpr ⟨lw_p28, List.forall_mem_cons.mpr ⟨lw_p29, List.forall_mem_cons.mpr ⟨lw_p30, List.forall_mem_cons.mpr ⟨lw_p31, fun _ h => absurd h List.not_mem_nil⟩⟩⟩⟩⟩⟩⟩⟩⟩⟩⟩⟩⟩⟩⟩⟩
theorem lw_p32 : lw_okq (⟨"TaskCoresModel", "no", "(I)Z"⟩, 45) := ⟨⟨by decide +kernel, by decide +kernel⟩, List.mem_of_getElem? (i := 617) (by decide +kernel), List.mem_of_getElem? (i := 771) (by decide +kernel), List.mem_of_getElem? (i := 772) (by decide +kernel)⟩
theorem lw_p33 : lw_okq (⟨"TaskCoresModel", "findCeilings", "()V"⟩, 45) := ⟨⟨by decide +kernel, by decide +kernel⟩, List.mem_of_getElem? (i := 617) (by decide +kernel), List.mem_of_getElem? (i := 803) (by decide +kernel), List.mem_of_getElem? (i := 804) (by decide +kernel)⟩
theorem lw_p34 : lw_okq (⟨"TaskCoresModel", "microsecond", "()I"⟩, 45) := ⟨⟨by decide +kernel, by decide +kernel⟩, List.mem_of_getElem? (i := 617) (by decide +kernel), List.mem_of_getElem? (i := 807) (by decide +kernel), List.mem_of_getElem? (i := 808) (by decide +kernel)⟩
theorem lw_p35 : lw_okq (⟨"TaskCoresModel", "begin", "(I)V"⟩, 45) := ⟨⟨by decide +kernel, by decide +kernel⟩, List.mem_of_getElem? (i := 617) (by decide +kernel), List.mem_of_getElem? (i := 811) (by decide +kernel), List.mem_of_getElem? (i := 812) (by decide +kernel)⟩
theorem lw_p36 : lw_okq (⟨"TaskCoresModel", "tell", "(II)V"⟩, 45) := ⟨⟨by decide +kernel, by decide +kernel⟩, List.mem_of_getElem? (i := 617) (by decide +kernel), List.mem_of_getElem? (i := 815) (by decide +kernel), List.mem_of_getElem? (i := 816) (by decide +kernel)⟩
theorem lw_p37 : lw_okq (⟨"TaskCoresModel", "ready", "(I)V"⟩, 45) := ⟨⟨by decide +kernel, by decide +kernel⟩, List.mem_of_getElem? (i := 617) (by decide +kernel), List.mem_of_getElem? (i := 819) (by decide +kernel), List.mem_of_getElem? (i := 820) (by decide +kernel)⟩
theorem lw_p38 : lw_okq (⟨"TaskCoresModel", "step", "(I)Z"⟩, 45) := ⟨⟨by decide +kernel, by decide +kernel⟩, List.mem_of_getElem? (i := 617) (by decide +kernel), List.mem_of_getElem? (i := 823) (by decide +kernel), List.mem_of_getElem? (i := 824) (by decide +kernel)⟩
theorem lw_p39 : lw_okq (⟨"TaskCoresModel", "atHand", "()I"⟩, 45) := ⟨⟨by decide +kernel, by decide +kernel⟩, List.mem_of_getElem? (i := 617) (by decide +kernel), List.mem_of_getElem? (i := 827) (by decide +kernel), List.mem_of_getElem? (i := 828) (by decide +kernel)⟩
theorem lw_p40 : lw_okq (⟨"TaskCoresModel", "choose", "(I)I"⟩, 45) := ⟨⟨by decide +kernel, by decide +kernel⟩, List.mem_of_getElem? (i := 617) (by decide +kernel), List.mem_of_getElem? (i := 831) (by decide +kernel), List.mem_of_getElem? (i := 832) (by decide +kernel)⟩
theorem lw_p41 : lw_okq (⟨"TaskCoresModel", "runningOf", "(I)I"⟩, 45) := ⟨⟨by decide +kernel, by decide +kernel⟩, List.mem_of_getElem? (i := 617) (by decide +kernel), List.mem_of_getElem? (i := 835) (by decide +kernel), List.mem_of_getElem? (i := 836) (by decide +kernel)⟩
theorem lw_p42 : lw_okq (⟨"TaskCoresModel", "height", "(I)I"⟩, 45) := ⟨⟨by decide +kernel, by decide +kernel⟩, List.mem_of_getElem? (i := 617) (by decide +kernel), List.mem_of_getElem? (i := 839) (by decide +kernel), List.mem_of_getElem? (i := 840) (by decide +kernel)⟩
theorem lw_p43 : lw_okq (⟨"TaskCoresModel", "nextPart", "(I)I"⟩, 45) := ⟨⟨by decide +kernel, by decide +kernel⟩, List.mem_of_getElem? (i := 617) (by decide +kernel), List.mem_of_getElem? (i := 843) (by decide +kernel), List.mem_of_getElem? (i := 844) (by decide +kernel)⟩
theorem lw_p44 : lw_okq (⟨"TaskCoresModel", "ends", "(I)V"⟩, 45) := ⟨⟨by decide +kernel, by decide +kernel⟩, List.mem_of_getElem? (i := 617) (by decide +kernel), List.mem_of_getElem? (i := 847) (by decide +kernel), List.mem_of_getElem? (i := 848) (by decide +kernel)⟩
theorem lw_p45 : lw_okq (⟨"TaskCoresModel", "free", "(I)V"⟩, 45) := ⟨⟨by decide +kernel, by decide +kernel⟩, List.mem_of_getElem? (i := 617) (by decide +kernel), List.mem_of_getElem? (i := 851) (by decide +kernel), List.mem_of_getElem? (i := 852) (by decide +kernel)⟩
theorem lw_p46 : lw_okq (⟨"TaskCoresModel", "holdsSome", "(I)Z"⟩, 45) := ⟨⟨by decide +kernel, by decide +kernel⟩, List.mem_of_getElem? (i := 617) (by decide +kernel), List.mem_of_getElem? (i := 855) (by decide +kernel), List.mem_of_getElem? (i := 856) (by decide +kernel)⟩
theorem lw_p47 : lw_okq (⟨"TaskCoresModel", "unlock", "(I)V"⟩, 45) := ⟨⟨by decide +kernel, by decide +kernel⟩, List.mem_of_getElem? (i := 617) (by decide +kernel), List.mem_of_getElem? (i := 859) (by decide +kernel), List.mem_of_getElem? (i := 860) (by decide +kernel)⟩
def lw_privs_3 : List (MethodName × Nat) := [(⟨"TaskCoresModel", "no", "(I)Z"⟩, 45), (⟨"TaskCoresModel", "findCeilings", "()V"⟩, 45), (⟨"TaskCoresModel", "microsecond", "()I"⟩, 45), (⟨"TaskCoresModel", "begin", "(I)V"⟩, 45), (⟨"TaskCoresModel", "tell", "(II)V"⟩, 45), (⟨"TaskCoresModel", "ready", "(I)V"⟩, 45), (⟨"TaskCoresModel", "step", "(I)Z"⟩, 45), (⟨"TaskCoresModel", "atHand", "()I"⟩, 45), (⟨"TaskCoresModel", "choose", "(I)I"⟩, 45), (⟨"TaskCoresModel", "runningOf", "(I)I"⟩, 45), (⟨"TaskCoresModel", "height", "(I)I"⟩, 45), (⟨"TaskCoresModel", "nextPart", "(I)I"⟩, 45), (⟨"TaskCoresModel", "ends", "(I)V"⟩, 45), (⟨"TaskCoresModel", "free", "(I)V"⟩, 45), (⟨"TaskCoresModel", "holdsSome", "(I)Z"⟩, 45), (⟨"TaskCoresModel", "unlock", "(I)V"⟩, 45)]
theorem lw_r3 : ∀ q ∈ lw_privs_3, lw_okq q := List.forall_mem_cons.mpr ⟨lw_p32, List.forall_mem_cons.mpr ⟨lw_p33, List.forall_mem_cons.mpr ⟨lw_p34, List.forall_mem_cons.mpr ⟨lw_p35, List.forall_mem_cons.mpr ⟨lw_p36, List.forall_mem_cons.mpr ⟨lw_p37, List.forall_mem_cons.mpr ⟨lw_p38, List.forall_mem_cons.mpr ⟨lw_p39, List.forall_mem_cons.mpr ⟨lw_p40, List.forall_mem_cons.mpr ⟨lw_p41, List.forall_mem_cons.mpr ⟨lw_p42, List.forall_mem_cons.mpr ⟨lw_p43, List.forall_mem_cons.mpr ⟨lw_p44, List.forall_mem_cons.mpr ⟨lw_p45, List.forall_mem_cons.mpr ⟨lw_p46, List.forall_mem_cons.mpr ⟨lw_p47, fun _ h => absurd h List.not_mem_nil⟩⟩⟩⟩⟩⟩⟩⟩⟩⟩⟩⟩⟩⟩⟩⟩
theorem lw_p48 : lw_okq (⟨"TaskCoresModel", "act", "(IIJ)V"⟩, 45) := ⟨⟨by decide +kernel, by decide +kernel⟩, List.mem_of_getElem? (i := 617) (by decide +kernel), List.mem_of_getElem? (i := 863) (by decide +kernel), List.mem_of_getElem? (i := 864) (by decide +kernel)⟩
theorem lw_p49 : lw_okq (⟨"TaskCoresModel", "chain", "(II)V"⟩, 45) := ⟨⟨by decide +kernel, by decide +kernel⟩, List.mem_of_getElem? (i := 617) (by decide +kernel), List.mem_of_getElem? (i := 867) (by decide +kernel), List.mem_of_getElem? (i := 868) (by decide +kernel)⟩
theorem lw_p50 : lw_okq (⟨"TaskCoresModel", "set", "(II)Z"⟩, 45) := ⟨⟨by decide +kernel, by decide +kernel⟩, List.mem_of_getElem? (i := 617) (by decide +kernel), List.mem_of_getElem? (i := 872) (by decide +kernel), List.mem_of_getElem? (i := 873) (by decide +kernel)⟩
theorem lw_p51 : lw_okq (⟨"TaskCoresModel", "pass", "(I)V"⟩, 45) := ⟨⟨by decide +kernel, by decide +kernel⟩, List.mem_of_getElem? (i := 617) (by decide +kernel), List.mem_of_getElem? (i := 877) (by decide +kernel), List.mem_of_getElem? (i := 878) (by decide +kernel)⟩
theorem lw_p52 : lw_okq (⟨"TaskCoresModel", "isSwitch", "(II)Z"⟩, 45) := ⟨⟨by decide +kernel, by decide +kernel⟩, List.mem_of_getElem? (i := 617) (by decide +kernel), List.mem_of_getElem? (i := 915) (by decide +kernel), List.mem_of_getElem? (i := 916) (by decide +kernel)⟩
def lw_privs_4 : List (MethodName × Nat) := [(⟨"TaskCoresModel", "act", "(IIJ)V"⟩, 45), (⟨"TaskCoresModel", "chain", "(II)V"⟩, 45), (⟨"TaskCoresModel", "set", "(II)Z"⟩, 45), (⟨"TaskCoresModel", "pass", "(I)V"⟩, 45), (⟨"TaskCoresModel", "isSwitch", "(II)Z"⟩, 45)]
theorem lw_r4 : ∀ q ∈ lw_privs_4, lw_okq q := List.forall_mem_cons.mpr ⟨lw_p48, List.forall_mem_cons.mpr ⟨lw_p49, List.forall_mem_cons.mpr ⟨lw_p50, List.forall_mem_cons.mpr ⟨lw_p51, List.forall_mem_cons.mpr ⟨lw_p52, fun _ h => absurd h List.not_mem_nil⟩⟩⟩⟩⟩
def lw_privs : List (MethodName × Nat) := lw_privs_1 ++ (lw_privs_2 ++ (lw_privs_3 ++ (lw_privs_4)))
def lw_tbl : List Cond := k2_sels lw_privs ++ tables_1
theorem lw_privs_ok : ∀ q ∈ lw_privs, lw_okq q := by
  show ∀ q ∈ lw_privs_1 ++ (lw_privs_2 ++ (lw_privs_3 ++ (lw_privs_4))), lw_okq q
  exact List.forall_mem_append.mpr ⟨lw_r1, List.forall_mem_append.mpr ⟨lw_r2, List.forall_mem_append.mpr ⟨lw_r3, lw_r4⟩⟩⟩
end
section
abbrev mR_T : String := "TaskCores"
def mF_T : u_T := fun k => match k with
  | 0 => ("TaskCores", "tasks", "[LTaskCores$Task;", true)
  | 1 => ("TaskCores", "cores", "[LTaskCores$Core;", true)
  | 2 => ("TaskCores", "resources", "[LTaskCores$Resource;", true)
  | 3 => ("TaskCores", "locks", "[LTaskCores$Lock;", true)
  | 4 => ("TaskCores", "interrupts", "LTaskCores$Interrupts;", true)
  | 5 => ("TaskCores", "codes", "LTaskCores$Log;", true)
  | 6 => ("TaskCores", "switches", "LTaskCores$Log;", true)
  | 7 => ("TaskCores", "nextTelling", "LTaskCores$Telling;", false)
  | 8 => ("TaskCores", "tellingCount", "I", false)
  | 9 => ("TaskCores", "taskCount", "I", false)
  | 10 => ("TaskCores", "partCount", "I", false)
  | 11 => ("TaskCores", "lastTurn", "I", false)
  | _ => ("TaskCores", "time", "I", false)
def mt_T : Nat → FieldType := fun k => match k with
  | 0 => .array (.object "TaskCores$Task")
  | 1 => .array (.object "TaskCores$Core")
  | 2 => .array (.object "TaskCores$Resource")
  | 3 => .array (.object "TaskCores$Lock")
  | 4 => .object "TaskCores$Interrupts"
  | 5 => .object "TaskCores$Log"
  | 6 => .object "TaskCores$Log"
  | 7 => .object "TaskCores$Telling"
  | 8 => .int
  | 9 => .int
  | 10 => .int
  | 11 => .int
  | _ => .int
abbrev mR_C : String := "TaskCores$Core"
def mF_C : u_T := fun k => match k with
  | 0 => ("TaskCores$Core", "number", "I", true)
  | 1 => ("TaskCores$Core", "seen", "LTaskCores$Log;", true)
  | 2 => ("TaskCores$Core", "first", "LTaskCores$Task;", false)
  | 3 => ("TaskCores$Core", "last", "LTaskCores$Task;", false)
  | 4 => ("TaskCores$Core", "runner", "LTaskCores$Task;", false)
  | 5 => ("TaskCores$Core", "who", "I", false)
  | _ => ("TaskCores$Core", "scheduling", "Z", false)
def mt_C : Nat → FieldType := fun k => match k with
  | 0 => .int
  | 1 => .object "TaskCores$Log"
  | 2 => .object "TaskCores$Task"
  | 3 => .object "TaskCores$Task"
  | 4 => .object "TaskCores$Task"
  | 5 => .int
  | _ => .boolean
abbrev mR_I : String := "TaskCores$Interrupt"
def mF_I : u_T := fun k => match k with
  | 0 => ("TaskCores$Interrupt", "level", "I", true)
  | 1 => ("TaskCores$Interrupt", "at", "I", true)
  | 2 => ("TaskCores$Interrupt", "left", "I", false)
  | _ => ("TaskCores$Interrupt", "next", "LTaskCores$Interrupt;", false)
def mt_I : Nat → FieldType := fun k => match k with
  | 0 => .int
  | 1 => .int
  | 2 => .int
  | _ => .object "TaskCores$Interrupt"
abbrev mR_U : String := "TaskCores$Interrupts"
def mF_U : u_T := fun k => match k with
  | 0 => ("TaskCores$Interrupts", "first", "LTaskCores$Interrupt;", false)
  | 1 => ("TaskCores$Interrupts", "told", "I", false)
  | 2 => ("TaskCores$Interrupts", "offBy", "LTaskCores$Task;", false)
  | _ => ("TaskCores$Interrupts", "budgetEnd", "I", false)
def mt_U : Nat → FieldType := fun k => match k with
  | 0 => .object "TaskCores$Interrupt"
  | 1 => .int
  | 2 => .object "TaskCores$Task"
  | _ => .int
abbrev mR_L : String := "TaskCores$Lock"
def mF_L : u_T := fun k => match k with
  | 0 => ("TaskCores$Lock", "owner", "LTaskCores$Task;", false)
  | _ => ("TaskCores$Lock", "firstInQueue", "LTaskCores$Task;", false)
def mt_L : Nat → FieldType := fun k => match k with
  | 0 => .object "TaskCores$Task"
  | _ => .object "TaskCores$Task"
abbrev mR_G : String := "TaskCores$Log"
def mF_G : u_T := fun k => match k with
  | 0 => ("TaskCores$Log", "blocks", "[[J", true)
  | 1 => ("TaskCores$Log", "capacity", "I", true)
  | _ => ("TaskCores$Log", "count", "I", false)
def mt_G : Nat → FieldType := fun k => match k with
  | 0 => .array (.array .long)
  | 1 => .int
  | _ => .int
abbrev mR_P : String := "TaskCores$Part"
def mF_P : u_T := fun k => match k with
  | 0 => ("TaskCores$Part", "kind", "I", true)
  | 1 => ("TaskCores$Part", "value", "I", true)
  | _ => ("TaskCores$Part", "next", "LTaskCores$Part;", false)
def mt_P : Nat → FieldType := fun k => match k with
  | 0 => .int
  | 1 => .int
  | _ => .object "TaskCores$Part"
abbrev mR_R : String := "TaskCores$Resource"
def mF_R : u_T := fun k => match k with
  | 0 => ("TaskCores$Resource", "ceiling", "I", false)
  | 1 => ("TaskCores$Resource", "owner", "LTaskCores$Task;", false)
  | _ => ("TaskCores$Resource", "gotBefore", "LTaskCores$Resource;", false)
def mt_R : Nat → FieldType := fun k => match k with
  | 0 => .int
  | 1 => .object "TaskCores$Task"
  | _ => .object "TaskCores$Resource"
abbrev mR_K : String := "TaskCores$Task"
def mF_K : u_T := fun k => match k with
  | 0 => ("TaskCores$Task", "number", "I", true)
  | 1 => ("TaskCores$Task", "rank", "I", true)
  | 2 => ("TaskCores$Task", "core", "LTaskCores$Core;", true)
  | 3 => ("TaskCores$Task", "bound", "I", true)
  | 4 => ("TaskCores$Task", "extended", "Z", true)
  | 5 => ("TaskCores$Task", "full", "Z", false)
  | 6 => ("TaskCores$Task", "start", "LTaskCores$Part;", true)
  | 7 => ("TaskCores$Task", "part", "LTaskCores$Part;", false)
  | 8 => ("TaskCores$Task", "spent", "I", false)
  | 9 => ("TaskCores$Task", "state", "I", false)
  | 10 => ("TaskCores$Task", "turn", "I", false)
  | 11 => ("TaskCores$Task", "wanted", "I", false)
  | 12 => ("TaskCores$Task", "events", "I", false)
  | 13 => ("TaskCores$Task", "awaited", "I", false)
  | 14 => ("TaskCores$Task", "used", "I", false)
  | 15 => ("TaskCores$Task", "lastGot", "LTaskCores$Resource;", false)
  | 16 => ("TaskCores$Task", "lockCount", "I", false)
  | 17 => ("TaskCores$Task", "nextOnCore", "LTaskCores$Task;", false)
  | _ => ("TaskCores$Task", "nextInQueue", "LTaskCores$Task;", false)
def mt_K : Nat → FieldType := fun k => match k with
  | 0 => .int
  | 1 => .int
  | 2 => .object "TaskCores$Core"
  | 3 => .int
  | 4 => .boolean
  | 5 => .boolean
  | 6 => .object "TaskCores$Part"
  | 7 => .object "TaskCores$Part"
  | 8 => .int
  | 9 => .int
  | 10 => .int
  | 11 => .int
  | 12 => .int
  | 13 => .int
  | 14 => .int
  | 15 => .object "TaskCores$Resource"
  | 16 => .int
  | 17 => .object "TaskCores$Task"
  | _ => .object "TaskCores$Task"
abbrev mR_E : String := "TaskCores$Telling"
def mF_E : u_T := fun k => match k with
  | 0 => ("TaskCores$Telling", "task", "LTaskCores$Task;", true)
  | 1 => ("TaskCores$Telling", "time", "I", true)
  | _ => ("TaskCores$Telling", "next", "LTaskCores$Telling;", false)
def mt_E : Nat → FieldType := fun k => match k with
  | 0 => .object "TaskCores$Task"
  | 1 => .int
  | _ => .object "TaskCores$Telling"
abbrev mR_M : String := "TaskCoresModel"
def mF_M : u_T := fun k => match k with
  | 0 => ("TaskCoresModel", "cores", "I", true)
  | 1 => ("TaskCoresModel", "tasks", "I", false)
  | 2 => ("TaskCoresModel", "rank", "[I", true)
  | 3 => ("TaskCoresModel", "core", "[I", true)
  | 4 => ("TaskCoresModel", "bound", "[I", true)
  | 5 => ("TaskCoresModel", "extended", "[Z", true)
  | 6 => ("TaskCoresModel", "full", "[Z", true)
  | 7 => ("TaskCoresModel", "parts", "I", false)
  | 8 => ("TaskCoresModel", "partOf", "[I", true)
  | 9 => ("TaskCoresModel", "partKind", "[I", true)
  | 10 => ("TaskCoresModel", "partV", "[J", true)
  | 11 => ("TaskCoresModel", "state", "[I", true)
  | 12 => ("TaskCoresModel", "turn", "[J", true)
  | 13 => ("TaskCoresModel", "wanted", "[I", true)
  | 14 => ("TaskCoresModel", "next", "[I", true)
  | 15 => ("TaskCoresModel", "left", "[J", true)
  | 16 => ("TaskCoresModel", "starts", "[Z", true)
  | 17 => ("TaskCoresModel", "events", "[I", true)
  | 18 => ("TaskCoresModel", "awaited", "[I", true)
  | 19 => ("TaskCoresModel", "yields", "[Z", true)
  | 20 => ("TaskCoresModel", "used", "[J", true)
  | 21 => ("TaskCoresModel", "turns", "J", false)
  | 22 => ("TaskCoresModel", "holder", "[I", true)
  | 23 => ("TaskCoresModel", "gotAt", "[J", true)
  | 24 => ("TaskCoresModel", "ceiling", "[I", true)
  | 25 => ("TaskCoresModel", "owner", "[I", true)
  | 26 => ("TaskCoresModel", "spins", "[I", true)
  | 27 => ("TaskCoresModel", "spinsSince", "[J", true)
  | 28 => ("TaskCoresModel", "orders", "J", false)
  | 29 => ("TaskCoresModel", "offBy", "I", false)
  | 30 => ("TaskCoresModel", "offEnd", "J", false)
  | 31 => ("TaskCoresModel", "offTold", "Z", false)
  | 32 => ("TaskCoresModel", "alarms", "I", false)
  | 33 => ("TaskCoresModel", "alarmTask", "[I", true)
  | 34 => ("TaskCoresModel", "alarmAt", "[J", true)
  | 35 => ("TaskCoresModel", "interrupts", "I", false)
  | 36 => ("TaskCoresModel", "level", "[I", true)
  | 37 => ("TaskCoresModel", "comes", "[J", true)
  | 38 => ("TaskCoresModel", "rest", "[J", true)
  | 39 => ("TaskCoresModel", "codes", "I", false)
  | 40 => ("TaskCoresModel", "codeKind", "[I", true)
  | 41 => ("TaskCoresModel", "codeTask", "[I", true)
  | 42 => ("TaskCoresModel", "codeAt", "[J", true)
  | 43 => ("TaskCoresModel", "now", "J", false)
  | _ => ("TaskCoresModel", "who", "[S", true)
def mt_M : Nat → FieldType := fun k => match k with
  | 0 => .int
  | 1 => .int
  | 2 => .array .int
  | 3 => .array .int
  | 4 => .array .int
  | 5 => .array .boolean
  | 6 => .array .boolean
  | 7 => .int
  | 8 => .array .int
  | 9 => .array .int
  | 10 => .array .long
  | 11 => .array .int
  | 12 => .array .long
  | 13 => .array .int
  | 14 => .array .int
  | 15 => .array .long
  | 16 => .array .boolean
  | 17 => .array .int
  | 18 => .array .int
  | 19 => .array .boolean
  | 20 => .array .long
  | 21 => .long
  | 22 => .array .int
  | 23 => .array .long
  | 24 => .array .int
  | 25 => .array .int
  | 26 => .array .int
  | 27 => .array .long
  | 28 => .long
  | 29 => .int
  | 30 => .long
  | 31 => .boolean
  | 32 => .int
  | 33 => .array .int
  | 34 => .array .long
  | 35 => .int
  | 36 => .array .int
  | 37 => .array .long
  | 38 => .array .long
  | 39 => .int
  | 40 => .array .int
  | 41 => .array .int
  | 42 => .array .long
  | 43 => .long
  | _ => .array .short
abbrev mR_W : String := "TaskCoresLaw"
def md_cl : List vw_C := [(mR_T, mF_T, 13), (mR_C, mF_C, 7), (mR_I, mF_I, 4), (mR_U, mF_U, 4), (mR_L, mF_L, 2), (mR_G, mF_G, 3), (mR_P, mF_P, 3), (mR_R, mF_R, 3), (mR_K, mF_K, 19), (mR_E, mF_E, 3), (mR_M, mF_M, 45)]
def md_ty : Nat → Nat → FieldType := fun c => match c with
  | 0 => mt_T
  | 1 => mt_C
  | 2 => mt_I
  | 3 => mt_U
  | 4 => mt_L
  | 5 => mt_G
  | 6 => mt_P
  | 7 => mt_R
  | 8 => mt_K
  | 9 => mt_E
  | _ => mt_M
def md_at : List FieldType := [.int, .long, .boolean, .short, .object "TaskCores$Task", .object "TaskCores$Core", .object "TaskCores$Resource", .object "TaskCores$Lock", .array .long]
def md_Ts : List Cond := lw_tbl.filter goodWord
theorem mw_1 {w : Cond} (i : Nat) (h : tables_1_1[i]? = some w) (g : goodWord w = true) : w ∈ md_Ts := List.mem_filter.mpr ⟨List.mem_append_right _ (List.mem_append_left _ (List.mem_of_getElem? h)), g⟩
theorem mw_2 {w : Cond} (i : Nat) (h : tables_1_2[i]? = some w) (g : goodWord w = true) : w ∈ md_Ts := List.mem_filter.mpr ⟨List.mem_append_right _ (List.mem_append_right _ (List.mem_append_left _ (List.mem_of_getElem? h))), g⟩
theorem mw_3 {w : Cond} (i : Nat) (h : tables_1_3[i]? = some w) (g : goodWord w = true) : w ∈ md_Ts := List.mem_filter.mpr ⟨List.mem_append_right _ (List.mem_append_right _ (List.mem_append_right _ (List.mem_append_left _ (List.mem_of_getElem? h)))), g⟩
theorem mw_4 {w : Cond} (i : Nat) (h : tables_1_4[i]? = some w) (g : goodWord w = true) : w ∈ md_Ts := List.mem_filter.mpr ⟨List.mem_append_right _ (List.mem_append_right _ (List.mem_append_right _ (List.mem_append_right _ (List.mem_of_getElem? h)))), g⟩
theorem mw_p {w : Cond} (i : Nat) (h : (k2_sels lw_privs)[i]? = some w) (g : goodWord w = true) : w ∈ md_Ts := List.mem_filter.mpr ⟨List.mem_append_left _ (List.mem_of_getElem? h), g⟩
theorem tw_0 : (Jvm.Cond.initialized "TaskCoresLaw") ∈ md_Ts := mw_1 0 rfl rfl
theorem tw_1 : (Jvm.Cond.initialized "TaskCores") ∈ md_Ts := mw_1 1 rfl rfl
theorem tw_2 : (Jvm.Cond.initialized "TaskCores$Interrupts") ∈ md_Ts := mw_1 2 rfl rfl
theorem tw_3 : (Jvm.Cond.initialized "TaskCores$Log") ∈ md_Ts := mw_1 3 rfl rfl
theorem tw_4 : (Jvm.Cond.initialized "java/lang/Math") ∈ md_Ts := mw_1 4 rfl rfl
theorem tw_5 : (Jvm.Cond.initialized "TaskCores$Core") ∈ md_Ts := mw_1 5 rfl rfl
theorem tw_6 : (Jvm.Cond.initialized "TaskCores$Resource") ∈ md_Ts := mw_1 6 rfl rfl
theorem tw_7 : (Jvm.Cond.initialized "TaskCores$Lock") ∈ md_Ts := mw_1 7 rfl rfl
theorem tw_8 : (Jvm.Cond.initialized "TaskCoresModel") ∈ md_Ts := mw_1 8 rfl rfl
theorem tw_9 : (Jvm.Cond.initialized "TaskCores$Task") ∈ md_Ts := mw_1 9 rfl rfl
theorem tw_10 : (Jvm.Cond.initialized "TaskCores$Part") ∈ md_Ts := mw_1 10 rfl rfl
theorem tw_11 : (Jvm.Cond.initialized "TaskCores$Telling") ∈ md_Ts := mw_1 11 rfl rfl
theorem tw_12 : (Jvm.Cond.initialized "TaskCores$Interrupt") ∈ md_Ts := mw_1 12 rfl rfl
theorem tw_13 : (Jvm.Cond.classLink "TaskCoresLaw" (7 : Nat) "TaskCores") ∈ md_Ts := mw_1 13 rfl rfl
theorem tw_14 : (Jvm.Cond.instantiable "TaskCores" (13 : Nat)) ∈ md_Ts := mw_1 14 rfl rfl
theorem tw_15 : (Jvm.Cond.methodLink "TaskCoresLaw" (15 : Nat) ({ cls := "TaskCores", name := "<init>", desc := "(I)V" } : Jvm.MethodName)) ∈ md_Ts := mw_1 15 rfl rfl
theorem tw_16 : (Jvm.Cond.instanceMethod ({ cls := "TaskCores", name := "<init>", desc := "(I)V" } : Jvm.MethodName)) ∈ md_Ts := mw_1 16 rfl rfl
theorem tw_17 : (Jvm.Cond.code ({ cls := "TaskCores", name := "<init>", desc := "(I)V" } : Jvm.MethodName) prog_1_method_1_code (4 : Nat) (Option.none : Option Jvm.ClassFile.FieldType)) ∈ md_Ts := mw_1 17 rfl rfl
theorem tw_18 : (Jvm.Cond.methodLink "TaskCores" (1 : Nat) ({ cls := "java/lang/Object", name := "<init>", desc := "()V" } : Jvm.MethodName)) ∈ md_Ts := mw_1 18 rfl rfl
theorem tw_19 : (Jvm.Cond.instanceMethod ({ cls := "java/lang/Object", name := "<init>", desc := "()V" } : Jvm.MethodName)) ∈ md_Ts := mw_1 19 rfl rfl
theorem tw_20 : (Jvm.Cond.code ({ cls := "java/lang/Object", name := "<init>", desc := "()V" } : Jvm.MethodName) object_method_1_code (1 : Nat) (Option.none : Option Jvm.ClassFile.FieldType)) ∈ md_Ts := mw_1 20 rfl rfl
theorem tw_21 : (Jvm.Cond.classLink "TaskCores" (9 : Nat) "TaskCores$Task") ∈ md_Ts := mw_1 21 rfl rfl
theorem tw_23 : (Jvm.Cond.classLink "TaskCores" (15 : Nat) "TaskCores$Resource") ∈ md_Ts := mw_1 23 rfl rfl
theorem tw_25 : (Jvm.Cond.classLink "TaskCores" (21 : Nat) "TaskCores$Lock") ∈ md_Ts := mw_1 25 rfl rfl
theorem tw_27 : (Jvm.Cond.classLink "TaskCores" (27 : Nat) "TaskCores$Interrupts") ∈ md_Ts := mw_1 27 rfl rfl
theorem tw_28 : (Jvm.Cond.instantiable "TaskCores$Interrupts" (4 : Nat)) ∈ md_Ts := mw_1 28 rfl rfl
theorem tw_30 : (Jvm.Cond.instanceMethod ({ cls := "TaskCores$Interrupts", name := "<init>", desc := "()V" } : Jvm.MethodName)) ∈ md_Ts := mw_1 30 rfl rfl
theorem tw_31 : (Jvm.Cond.code ({ cls := "TaskCores$Interrupts", name := "<init>", desc := "()V" } : Jvm.MethodName) prog_4_method_1_code (1 : Nat) (Option.none : Option Jvm.ClassFile.FieldType)) ∈ md_Ts := mw_1 31 rfl rfl
theorem tw_32 : (Jvm.Cond.methodLink "TaskCores$Interrupts" (3 : Nat) ({ cls := "java/lang/Object", name := "<init>", desc := "()V" } : Jvm.MethodName)) ∈ md_Ts := mw_1 32 rfl rfl
theorem tw_33 : (Jvm.Cond.fieldLink "TaskCores$Interrupts" (15 : Nat) "TaskCores$Interrupts" "first" "LTaskCores$Interrupt;") ∈ md_Ts := mw_1 33 rfl rfl
theorem tw_34 : (Jvm.Cond.fieldLink "TaskCores$Interrupts" (9 : Nat) "TaskCores$Interrupts" "told" "I") ∈ md_Ts := mw_1 34 rfl rfl
theorem tw_35 : (Jvm.Cond.fieldLink "TaskCores" (132 : Nat) "TaskCores$Interrupts" "told" "I") ∈ md_Ts := mw_1 35 rfl rfl
theorem tw_36 : (Jvm.Cond.fieldLink "TaskCores$Interrupts" (30 : Nat) "TaskCores$Interrupts" "offBy" "LTaskCores$Task;") ∈ md_Ts := mw_1 36 rfl rfl
theorem tw_37 : (Jvm.Cond.fieldLink "TaskCores" (342 : Nat) "TaskCores$Interrupts" "offBy" "LTaskCores$Task;") ∈ md_Ts := mw_1 37 rfl rfl
theorem tw_38 : (Jvm.Cond.fieldLink "TaskCores$Interrupts" (34 : Nat) "TaskCores$Interrupts" "budgetEnd" "I") ∈ md_Ts := mw_1 38 rfl rfl
theorem tw_39 : (Jvm.Cond.fieldLink "TaskCores" (345 : Nat) "TaskCores$Interrupts" "budgetEnd" "I") ∈ md_Ts := mw_1 39 rfl rfl
theorem tw_49 : (Jvm.Cond.classLink "TaskCores" (34 : Nat) "TaskCores$Log") ∈ md_Ts := mw_1 49 rfl rfl
theorem tw_50 : (Jvm.Cond.instantiable "TaskCores$Log" (3 : Nat)) ∈ md_Ts := mw_1 50 rfl rfl
theorem tw_51 : (Jvm.Cond.methodLink "TaskCores" (36 : Nat) ({ cls := "TaskCores$Log", name := "<init>", desc := "(I)V" } : Jvm.MethodName)) ∈ md_Ts := mw_1 51 rfl rfl
theorem tw_52 : (Jvm.Cond.instanceMethod ({ cls := "TaskCores$Log", name := "<init>", desc := "(I)V" } : Jvm.MethodName)) ∈ md_Ts := mw_1 52 rfl rfl
theorem tw_53 : (Jvm.Cond.code ({ cls := "TaskCores$Log", name := "<init>", desc := "(I)V" } : Jvm.MethodName) prog_6_method_1_code (2 : Nat) (Option.none : Option Jvm.ClassFile.FieldType)) ∈ md_Ts := mw_1 53 rfl rfl
theorem tw_54 : (Jvm.Cond.methodLink "TaskCores$Log" (3 : Nat) ({ cls := "java/lang/Object", name := "<init>", desc := "()V" } : Jvm.MethodName)) ∈ md_Ts := mw_1 54 rfl rfl
theorem tw_55 : (Jvm.Cond.methodLink "TaskCores$Log" (9 : Nat) ({ cls := "java/lang/Math", name := "max", desc := "(II)I" } : Jvm.MethodName)) ∈ md_Ts := mw_1 55 rfl rfl
theorem tw_56 : (Jvm.Cond.static ({ cls := "java/lang/Math", name := "max", desc := "(II)I" } : Jvm.MethodName)) ∈ md_Ts := mw_1 56 rfl rfl
theorem tw_57 : (Jvm.Cond.code ({ cls := "java/lang/Math", name := "max", desc := "(II)I" } : Jvm.MethodName) prog_13_method_65_code (2 : Nat) (Option.some Jvm.ClassFile.FieldType.int)) ∈ md_Ts := mw_1 57 rfl rfl
theorem tw_58 : (Jvm.Cond.classLink "TaskCores$Log" (21 : Nat) "[J") ∈ md_Ts := mw_1 58 rfl rfl
theorem tw_60 : (Jvm.Cond.fieldLink "TaskCores$Log" (23 : Nat) "TaskCores$Log" "blocks" "[[J") ∈ md_Ts := mw_1 60 rfl rfl
theorem tw_61 : (Jvm.Cond.fieldLink "TaskCores$Log" (15 : Nat) "TaskCores$Log" "capacity" "I") ∈ md_Ts := mw_1 61 rfl rfl
theorem tw_62 : (Jvm.Cond.fieldLink "TaskCores$Log" (27 : Nat) "TaskCores$Log" "count" "I") ∈ md_Ts := mw_1 62 rfl rfl
theorem tw_63 : (Jvm.Cond.fieldLink "TaskCores$Core" (44 : Nat) "TaskCores$Log" "count" "I") ∈ md_Ts := mw_1 63 rfl rfl
theorem tw_71 : (Jvm.Cond.classLink "TaskCores" (43 : Nat) "TaskCores$Core") ∈ md_Ts := mw_1 71 rfl rfl
theorem tw_73 : (Jvm.Cond.instantiable "TaskCores$Core" (7 : Nat)) ∈ md_Ts := mw_1 73 rfl rfl
theorem tw_74 : (Jvm.Cond.methodLink "TaskCores" (49 : Nat) ({ cls := "TaskCores$Core", name := "<init>", desc := "(I)V" } : Jvm.MethodName)) ∈ md_Ts := mw_1 74 rfl rfl
theorem tw_75 : (Jvm.Cond.instanceMethod ({ cls := "TaskCores$Core", name := "<init>", desc := "(I)V" } : Jvm.MethodName)) ∈ md_Ts := mw_1 75 rfl rfl
theorem tw_76 : (Jvm.Cond.code ({ cls := "TaskCores$Core", name := "<init>", desc := "(I)V" } : Jvm.MethodName) prog_2_method_1_code (2 : Nat) (Option.none : Option Jvm.ClassFile.FieldType)) ∈ md_Ts := mw_1 76 rfl rfl
theorem tw_77 : (Jvm.Cond.methodLink "TaskCores$Core" (3 : Nat) ({ cls := "java/lang/Object", name := "<init>", desc := "()V" } : Jvm.MethodName)) ∈ md_Ts := mw_1 77 rfl rfl
theorem tw_78 : (Jvm.Cond.classLink "TaskCores$Core" (9 : Nat) "TaskCores$Log") ∈ md_Ts := mw_1 78 rfl rfl
theorem tw_79 : (Jvm.Cond.constant "TaskCores$Core" (11 : Nat) (50000 : Int32)) ∈ md_Ts := mw_1 79 rfl rfl
theorem tw_80 : (Jvm.Cond.methodLink "TaskCores$Core" (12 : Nat) ({ cls := "TaskCores$Log", name := "<init>", desc := "(I)V" } : Jvm.MethodName)) ∈ md_Ts := mw_1 80 rfl rfl
theorem tw_81 : (Jvm.Cond.fieldLink "TaskCores$Core" (21 : Nat) "TaskCores$Core" "number" "I") ∈ md_Ts := mw_1 81 rfl rfl
theorem tw_82 : (Jvm.Cond.fieldLink "TaskCores" (240 : Nat) "TaskCores$Core" "number" "I") ∈ md_Ts := mw_1 82 rfl rfl
theorem tw_83 : (Jvm.Cond.fieldLink "TaskCores$Core" (15 : Nat) "TaskCores$Core" "seen" "LTaskCores$Log;") ∈ md_Ts := mw_1 83 rfl rfl
theorem tw_84 : (Jvm.Cond.fieldLink "TaskCores$Core" (29 : Nat) "TaskCores$Core" "first" "LTaskCores$Task;") ∈ md_Ts := mw_1 84 rfl rfl
theorem tw_85 : (Jvm.Cond.fieldLink "TaskCores" (265 : Nat) "TaskCores$Core" "first" "LTaskCores$Task;") ∈ md_Ts := mw_1 85 rfl rfl
theorem tw_86 : (Jvm.Cond.fieldLink "TaskCores$Core" (25 : Nat) "TaskCores$Core" "last" "LTaskCores$Task;") ∈ md_Ts := mw_1 86 rfl rfl
theorem tw_87 : (Jvm.Cond.fieldLink "TaskCores" (245 : Nat) "TaskCores$Core" "runner" "LTaskCores$Task;") ∈ md_Ts := mw_1 87 rfl rfl
theorem tw_88 : (Jvm.Cond.fieldLink "TaskCores$Core" (37 : Nat) "TaskCores$Core" "who" "I") ∈ md_Ts := mw_1 88 rfl rfl
theorem tw_89 : (Jvm.Cond.fieldLink "TaskCores" (393 : Nat) "TaskCores$Core" "who" "I") ∈ md_Ts := mw_1 89 rfl rfl
theorem tw_90 : (Jvm.Cond.fieldLink "TaskCores" (262 : Nat) "TaskCores$Core" "scheduling" "Z") ∈ md_Ts := mw_1 90 rfl rfl
theorem tw_106 : (Jvm.Cond.instantiable "TaskCores$Resource" (3 : Nat)) ∈ md_Ts := mw_1 106 rfl rfl
theorem tw_108 : (Jvm.Cond.instanceMethod ({ cls := "TaskCores$Resource", name := "<init>", desc := "()V" } : Jvm.MethodName)) ∈ md_Ts := mw_1 108 rfl rfl
theorem tw_109 : (Jvm.Cond.code ({ cls := "TaskCores$Resource", name := "<init>", desc := "()V" } : Jvm.MethodName) prog_8_method_1_code (1 : Nat) (Option.none : Option Jvm.ClassFile.FieldType)) ∈ md_Ts := mw_1 109 rfl rfl
theorem tw_110 : (Jvm.Cond.methodLink "TaskCores$Resource" (1 : Nat) ({ cls := "java/lang/Object", name := "<init>", desc := "()V" } : Jvm.MethodName)) ∈ md_Ts := mw_1 110 rfl rfl
theorem tw_111 : (Jvm.Cond.fieldLink "TaskCores" (89 : Nat) "TaskCores$Resource" "ceiling" "I") ∈ md_Ts := mw_1 111 rfl rfl
theorem tw_112 : (Jvm.Cond.fieldLink "TaskCores$Task" (51 : Nat) "TaskCores$Resource" "ceiling" "I") ∈ md_Ts := mw_1 112 rfl rfl
theorem tw_113 : (Jvm.Cond.fieldLink "TaskCores" (208 : Nat) "TaskCores$Resource" "owner" "LTaskCores$Task;") ∈ md_Ts := mw_1 113 rfl rfl
theorem tw_114 : (Jvm.Cond.fieldLink "TaskCores$Task" (62 : Nat) "TaskCores$Resource" "gotBefore" "LTaskCores$Resource;") ∈ md_Ts := mw_1 114 rfl rfl
theorem tw_115 : (Jvm.Cond.fieldLink "TaskCores" (336 : Nat) "TaskCores$Resource" "gotBefore" "LTaskCores$Resource;") ∈ md_Ts := mw_1 115 rfl rfl
theorem tw_123 : (Jvm.Cond.instantiable "TaskCores$Lock" (2 : Nat)) ∈ md_Ts := mw_1 123 rfl rfl
theorem tw_125 : (Jvm.Cond.instanceMethod ({ cls := "TaskCores$Lock", name := "<init>", desc := "()V" } : Jvm.MethodName)) ∈ md_Ts := mw_1 125 rfl rfl
theorem tw_126 : (Jvm.Cond.code ({ cls := "TaskCores$Lock", name := "<init>", desc := "()V" } : Jvm.MethodName) prog_5_method_1_code (1 : Nat) (Option.none : Option Jvm.ClassFile.FieldType)) ∈ md_Ts := mw_1 126 rfl rfl
theorem tw_127 : (Jvm.Cond.methodLink "TaskCores$Lock" (1 : Nat) ({ cls := "java/lang/Object", name := "<init>", desc := "()V" } : Jvm.MethodName)) ∈ md_Ts := mw_1 127 rfl rfl
theorem tw_128 : (Jvm.Cond.fieldLink "TaskCores$Lock" (22 : Nat) "TaskCores$Lock" "owner" "LTaskCores$Task;") ∈ md_Ts := mw_1 128 rfl rfl
theorem tw_129 : (Jvm.Cond.fieldLink "TaskCores" (193 : Nat) "TaskCores$Lock" "owner" "LTaskCores$Task;") ∈ md_Ts := mw_1 129 rfl rfl
theorem tw_130 : (Jvm.Cond.fieldLink "TaskCores$Lock" (7 : Nat) "TaskCores$Lock" "firstInQueue" "LTaskCores$Task;") ∈ md_Ts := mw_1 130 rfl rfl
theorem tw_136 : (Jvm.Cond.constant "TaskCores" (52 : Nat) (50000 : Int32)) ∈ md_Ts := mw_1 136 rfl rfl
theorem tw_137 : (Jvm.Cond.fieldLink "TaskCores" (11 : Nat) "TaskCores" "tasks" "[LTaskCores$Task;") ∈ md_Ts := mw_1 137 rfl rfl
theorem tw_138 : (Jvm.Cond.fieldLink "TaskCores" (45 : Nat) "TaskCores" "cores" "[LTaskCores$Core;") ∈ md_Ts := mw_1 138 rfl rfl
theorem tw_139 : (Jvm.Cond.fieldLink "TaskCores" (17 : Nat) "TaskCores" "resources" "[LTaskCores$Resource;") ∈ md_Ts := mw_1 139 rfl rfl
theorem tw_140 : (Jvm.Cond.fieldLink "TaskCores" (23 : Nat) "TaskCores" "locks" "[LTaskCores$Lock;") ∈ md_Ts := mw_1 140 rfl rfl
theorem tw_141 : (Jvm.Cond.fieldLink "TaskCores" (30 : Nat) "TaskCores" "interrupts" "LTaskCores$Interrupts;") ∈ md_Ts := mw_1 141 rfl rfl
theorem tw_142 : (Jvm.Cond.fieldLink "TaskCores" (39 : Nat) "TaskCores" "codes" "LTaskCores$Log;") ∈ md_Ts := mw_1 142 rfl rfl
theorem tw_143 : (Jvm.Cond.fieldLink "TaskCores" (53 : Nat) "TaskCores" "switches" "LTaskCores$Log;") ∈ md_Ts := mw_1 143 rfl rfl
theorem tw_144 : (Jvm.Cond.fieldLink "TaskCores" (220 : Nat) "TaskCores" "nextTelling" "LTaskCores$Telling;") ∈ md_Ts := mw_1 144 rfl rfl
theorem tw_145 : (Jvm.Cond.fieldLink "TaskCores" (118 : Nat) "TaskCores" "tellingCount" "I") ∈ md_Ts := mw_1 145 rfl rfl
theorem tw_146 : (Jvm.Cond.fieldLink "TaskCores" (64 : Nat) "TaskCores" "taskCount" "I") ∈ md_Ts := mw_1 146 rfl rfl
theorem tw_147 : (Jvm.Cond.fieldLink "TaskCores" (82 : Nat) "TaskCores" "partCount" "I") ∈ md_Ts := mw_1 147 rfl rfl
theorem tw_148 : (Jvm.Cond.fieldLink "TaskCores" (366 : Nat) "TaskCores" "lastTurn" "I") ∈ md_Ts := mw_1 148 rfl rfl
theorem tw_149 : (Jvm.Cond.fieldLink "TaskCores" (60 : Nat) "TaskCores" "time" "I") ∈ md_Ts := mw_1 149 rfl rfl
theorem tw_177 : (Jvm.Cond.methodLink "TaskCoresLaw" (21 : Nat) ({ cls := "TaskCores", name := "task", desc := "(IIIZ)I" } : Jvm.MethodName)) ∈ md_Ts := mw_1 177 rfl rfl
theorem tw_178 : (Jvm.Cond.instanceMethod ({ cls := "TaskCores", name := "task", desc := "(IIIZ)I" } : Jvm.MethodName)) ∈ md_Ts := mw_1 178 rfl rfl
theorem tw_179 : (Jvm.Cond.selects "TaskCores" ({ cls := "TaskCores", name := "task", desc := "(IIIZ)I" } : Jvm.MethodName) ({ cls := "TaskCores", name := "task", desc := "(IIIZ)I" } : Jvm.MethodName)) ∈ md_Ts := mw_1 179 rfl rfl
theorem tw_180 : (Jvm.Cond.code ({ cls := "TaskCores", name := "task", desc := "(IIIZ)I" } : Jvm.MethodName) prog_1_method_2_code (8 : Nat) (Option.some Jvm.ClassFile.FieldType.int)) ∈ md_Ts := mw_1 180 rfl rfl
theorem tw_181 : (Jvm.Cond.methodLink "TaskCores" (56 : Nat) ({ cls := "TaskCores", name := "coreOf", desc := "(I)LTaskCores$Core;" } : Jvm.MethodName)) ∈ md_Ts := mw_1 181 rfl rfl
theorem tw_183 : (Jvm.Cond.instanceMethod ({ cls := "TaskCores", name := "coreOf", desc := "(I)LTaskCores$Core;" } : Jvm.MethodName)) ∈ md_Ts := mw_1 183 rfl rfl
theorem tw_184 : (Jvm.Cond.code ({ cls := "TaskCores", name := "coreOf", desc := "(I)LTaskCores$Core;" } : Jvm.MethodName) prog_1_method_18_code (2 : Nat) (Option.some (Jvm.ClassFile.FieldType.object "TaskCores$Core"))) ∈ md_Ts := mw_1 184 rfl rfl
theorem tw_185 : (Jvm.Cond.instantiable "TaskCores$Task" (19 : Nat)) ∈ md_Ts := mw_1 185 rfl rfl
theorem tw_186 : (Jvm.Cond.methodLink "TaskCores" (67 : Nat) ({ cls := "TaskCores$Task", name := "<init>", desc := "(IILTaskCores$Core;IZ)V" } : Jvm.MethodName)) ∈ md_Ts := mw_1 186 rfl rfl
theorem tw_187 : (Jvm.Cond.instanceMethod ({ cls := "TaskCores$Task", name := "<init>", desc := "(IILTaskCores$Core;IZ)V" } : Jvm.MethodName)) ∈ md_Ts := mw_1 187 rfl rfl
theorem tw_188 : (Jvm.Cond.code ({ cls := "TaskCores$Task", name := "<init>", desc := "(IILTaskCores$Core;IZ)V" } : Jvm.MethodName) prog_9_method_1_code (6 : Nat) (Option.none : Option Jvm.ClassFile.FieldType)) ∈ md_Ts := mw_1 188 rfl rfl
theorem tw_189 : (Jvm.Cond.methodLink "TaskCores$Task" (3 : Nat) ({ cls := "java/lang/Object", name := "<init>", desc := "()V" } : Jvm.MethodName)) ∈ md_Ts := mw_1 189 rfl rfl
theorem tw_190 : (Jvm.Cond.classLink "TaskCores$Task" (15 : Nat) "TaskCores$Part") ∈ md_Ts := mw_1 190 rfl rfl
theorem tw_191 : (Jvm.Cond.instantiable "TaskCores$Part" (3 : Nat)) ∈ md_Ts := mw_1 191 rfl rfl
theorem tw_192 : (Jvm.Cond.methodLink "TaskCores$Task" (17 : Nat) ({ cls := "TaskCores$Part", name := "<init>", desc := "(II)V" } : Jvm.MethodName)) ∈ md_Ts := mw_1 192 rfl rfl
theorem tw_193 : (Jvm.Cond.instanceMethod ({ cls := "TaskCores$Part", name := "<init>", desc := "(II)V" } : Jvm.MethodName)) ∈ md_Ts := mw_1 193 rfl rfl
theorem tw_194 : (Jvm.Cond.code ({ cls := "TaskCores$Part", name := "<init>", desc := "(II)V" } : Jvm.MethodName) prog_7_method_1_code (3 : Nat) (Option.none : Option Jvm.ClassFile.FieldType)) ∈ md_Ts := mw_1 194 rfl rfl
theorem tw_195 : (Jvm.Cond.methodLink "TaskCores$Part" (1 : Nat) ({ cls := "java/lang/Object", name := "<init>", desc := "()V" } : Jvm.MethodName)) ∈ md_Ts := mw_1 195 rfl rfl
theorem tw_196 : (Jvm.Cond.fieldLink "TaskCores$Part" (7 : Nat) "TaskCores$Part" "kind" "I") ∈ md_Ts := mw_1 196 rfl rfl
theorem tw_197 : (Jvm.Cond.fieldLink "TaskCores$Task" (75 : Nat) "TaskCores$Part" "kind" "I") ∈ md_Ts := mw_1 197 rfl rfl
theorem tw_198 : (Jvm.Cond.fieldLink "TaskCores" (252 : Nat) "TaskCores$Part" "kind" "I") ∈ md_Ts := mw_1 198 rfl rfl
theorem tw_199 : (Jvm.Cond.fieldLink "TaskCores$Part" (13 : Nat) "TaskCores$Part" "value" "I") ∈ md_Ts := mw_1 199 rfl rfl
theorem tw_200 : (Jvm.Cond.fieldLink "TaskCores$Task" (78 : Nat) "TaskCores$Part" "value" "I") ∈ md_Ts := mw_1 200 rfl rfl
theorem tw_201 : (Jvm.Cond.fieldLink "TaskCores" (255 : Nat) "TaskCores$Part" "value" "I") ∈ md_Ts := mw_1 201 rfl rfl
theorem tw_202 : (Jvm.Cond.fieldLink "TaskCores$Task" (44 : Nat) "TaskCores$Part" "next" "LTaskCores$Part;") ∈ md_Ts := mw_1 202 rfl rfl
theorem tw_203 : (Jvm.Cond.fieldLink "TaskCores$Lock" (33 : Nat) "TaskCores$Part" "next" "LTaskCores$Part;") ∈ md_Ts := mw_1 203 rfl rfl
theorem tw_204 : (Jvm.Cond.fieldLink "TaskCores" (281 : Nat) "TaskCores$Part" "next" "LTaskCores$Part;") ∈ md_Ts := mw_1 204 rfl rfl
theorem tw_212 : (Jvm.Cond.fieldLink "TaskCores$Task" (28 : Nat) "TaskCores$Task" "number" "I") ∈ md_Ts := mw_1 212 rfl rfl
theorem tw_213 : (Jvm.Cond.fieldLink "TaskCores" (201 : Nat) "TaskCores$Task" "number" "I") ∈ md_Ts := mw_1 213 rfl rfl
theorem tw_214 : (Jvm.Cond.fieldLink "TaskCores$Task" (31 : Nat) "TaskCores$Task" "rank" "I") ∈ md_Ts := mw_1 214 rfl rfl
theorem tw_215 : (Jvm.Cond.fieldLink "TaskCores" (92 : Nat) "TaskCores$Task" "rank" "I") ∈ md_Ts := mw_1 215 rfl rfl
theorem tw_216 : (Jvm.Cond.fieldLink "TaskCores$Task" (34 : Nat) "TaskCores$Task" "core" "LTaskCores$Core;") ∈ md_Ts := mw_1 216 rfl rfl
theorem tw_217 : (Jvm.Cond.fieldLink "TaskCores$Lock" (18 : Nat) "TaskCores$Task" "core" "LTaskCores$Core;") ∈ md_Ts := mw_1 217 rfl rfl
theorem tw_218 : (Jvm.Cond.fieldLink "TaskCores" (197 : Nat) "TaskCores$Task" "core" "LTaskCores$Core;") ∈ md_Ts := mw_1 218 rfl rfl
theorem tw_219 : (Jvm.Cond.fieldLink "TaskCores$Task" (38 : Nat) "TaskCores$Task" "bound" "I") ∈ md_Ts := mw_1 219 rfl rfl
theorem tw_220 : (Jvm.Cond.fieldLink "TaskCores" (357 : Nat) "TaskCores$Task" "bound" "I") ∈ md_Ts := mw_1 220 rfl rfl
theorem tw_221 : (Jvm.Cond.fieldLink "TaskCores$Task" (41 : Nat) "TaskCores$Task" "extended" "Z") ∈ md_Ts := mw_1 221 rfl rfl
theorem tw_222 : (Jvm.Cond.fieldLink "TaskCores" (323 : Nat) "TaskCores$Task" "extended" "Z") ∈ md_Ts := mw_1 222 rfl rfl
theorem tw_223 : (Jvm.Cond.fieldLink "TaskCores$Task" (9 : Nat) "TaskCores$Task" "full" "Z") ∈ md_Ts := mw_1 223 rfl rfl
theorem tw_224 : (Jvm.Cond.fieldLink "TaskCores" (110 : Nat) "TaskCores$Task" "full" "Z") ∈ md_Ts := mw_1 224 rfl rfl
theorem tw_225 : (Jvm.Cond.fieldLink "TaskCores$Task" (20 : Nat) "TaskCores$Task" "start" "LTaskCores$Part;") ∈ md_Ts := mw_1 225 rfl rfl
theorem tw_226 : (Jvm.Cond.fieldLink "TaskCores" (363 : Nat) "TaskCores$Task" "start" "LTaskCores$Part;") ∈ md_Ts := mw_1 226 rfl rfl
theorem tw_227 : (Jvm.Cond.fieldLink "TaskCores$Lock" (29 : Nat) "TaskCores$Task" "part" "LTaskCores$Part;") ∈ md_Ts := mw_1 227 rfl rfl
theorem tw_228 : (Jvm.Cond.fieldLink "TaskCores$Task" (72 : Nat) "TaskCores$Task" "part" "LTaskCores$Part;") ∈ md_Ts := mw_1 228 rfl rfl
theorem tw_229 : (Jvm.Cond.fieldLink "TaskCores" (248 : Nat) "TaskCores$Task" "part" "LTaskCores$Part;") ∈ md_Ts := mw_1 229 rfl rfl
theorem tw_230 : (Jvm.Cond.fieldLink "TaskCores$Task" (81 : Nat) "TaskCores$Task" "spent" "I") ∈ md_Ts := mw_1 230 rfl rfl
theorem tw_231 : (Jvm.Cond.fieldLink "TaskCores$Task" (24 : Nat) "TaskCores$Task" "state" "I") ∈ md_Ts := mw_1 231 rfl rfl
theorem tw_232 : (Jvm.Cond.fieldLink "TaskCores" (172 : Nat) "TaskCores$Task" "state" "I") ∈ md_Ts := mw_1 232 rfl rfl
theorem tw_233 : (Jvm.Cond.fieldLink "TaskCores$Task" (69 : Nat) "TaskCores$Task" "turn" "I") ∈ md_Ts := mw_1 233 rfl rfl
theorem tw_234 : (Jvm.Cond.fieldLink "TaskCores" (369 : Nat) "TaskCores$Task" "turn" "I") ∈ md_Ts := mw_1 234 rfl rfl
theorem tw_235 : (Jvm.Cond.fieldLink "TaskCores" (354 : Nat) "TaskCores$Task" "wanted" "I") ∈ md_Ts := mw_1 235 rfl rfl
theorem tw_236 : (Jvm.Cond.fieldLink "TaskCores" (183 : Nat) "TaskCores$Task" "events" "I") ∈ md_Ts := mw_1 236 rfl rfl
theorem tw_237 : (Jvm.Cond.fieldLink "TaskCores" (333 : Nat) "TaskCores$Task" "awaited" "I") ∈ md_Ts := mw_1 237 rfl rfl
theorem tw_238 : (Jvm.Cond.fieldLink "TaskCores$Task" (85 : Nat) "TaskCores$Task" "used" "I") ∈ md_Ts := mw_1 238 rfl rfl
theorem tw_239 : (Jvm.Cond.fieldLink "TaskCores" (169 : Nat) "TaskCores$Task" "used" "I") ∈ md_Ts := mw_1 239 rfl rfl
theorem tw_240 : (Jvm.Cond.fieldLink "TaskCores$Task" (47 : Nat) "TaskCores$Task" "lastGot" "LTaskCores$Resource;") ∈ md_Ts := mw_2 0 rfl rfl
theorem tw_241 : (Jvm.Cond.fieldLink "TaskCores" (326 : Nat) "TaskCores$Task" "lastGot" "LTaskCores$Resource;") ∈ md_Ts := mw_2 1 rfl rfl
theorem tw_242 : (Jvm.Cond.fieldLink "TaskCores$Lock" (25 : Nat) "TaskCores$Task" "lockCount" "I") ∈ md_Ts := mw_2 2 rfl rfl
theorem tw_243 : (Jvm.Cond.fieldLink "TaskCores" (330 : Nat) "TaskCores$Task" "lockCount" "I") ∈ md_Ts := mw_2 3 rfl rfl
theorem tw_244 : (Jvm.Cond.fieldLink "TaskCores$Core" (32 : Nat) "TaskCores$Task" "nextOnCore" "LTaskCores$Task;") ∈ md_Ts := mw_2 4 rfl rfl
theorem tw_245 : (Jvm.Cond.fieldLink "TaskCores" (272 : Nat) "TaskCores$Task" "nextOnCore" "LTaskCores$Task;") ∈ md_Ts := mw_2 5 rfl rfl
theorem tw_246 : (Jvm.Cond.fieldLink "TaskCores$Lock" (13 : Nat) "TaskCores$Task" "nextInQueue" "LTaskCores$Task;") ∈ md_Ts := mw_2 6 rfl rfl
theorem tw_286 : (Jvm.Cond.methodLink "TaskCores" (70 : Nat) ({ cls := "TaskCores$Core", name := "addTask", desc := "(LTaskCores$Task;)V" } : Jvm.MethodName)) ∈ md_Ts := mw_2 46 rfl rfl
theorem tw_287 : (Jvm.Cond.instanceMethod ({ cls := "TaskCores$Core", name := "addTask", desc := "(LTaskCores$Task;)V" } : Jvm.MethodName)) ∈ md_Ts := mw_2 47 rfl rfl
theorem tw_288 : (Jvm.Cond.selects "TaskCores$Core" ({ cls := "TaskCores$Core", name := "addTask", desc := "(LTaskCores$Task;)V" } : Jvm.MethodName) ({ cls := "TaskCores$Core", name := "addTask", desc := "(LTaskCores$Task;)V" } : Jvm.MethodName)) ∈ md_Ts := mw_2 48 rfl rfl
theorem tw_289 : (Jvm.Cond.code ({ cls := "TaskCores$Core", name := "addTask", desc := "(LTaskCores$Task;)V" } : Jvm.MethodName) prog_2_method_2_code (2 : Nat) (Option.none : Option Jvm.ClassFile.FieldType)) ∈ md_Ts := mw_2 49 rfl rfl
theorem tw_290 : (Jvm.Cond.methodLink "TaskCoresLaw" (28 : Nat) ({ cls := "TaskCores", name := "part", desc := "(IIJ)I" } : Jvm.MethodName)) ∈ md_Ts := mw_2 50 rfl rfl
theorem tw_291 : (Jvm.Cond.instanceMethod ({ cls := "TaskCores", name := "part", desc := "(IIJ)I" } : Jvm.MethodName)) ∈ md_Ts := mw_2 51 rfl rfl
theorem tw_292 : (Jvm.Cond.selects "TaskCores" ({ cls := "TaskCores", name := "part", desc := "(IIJ)I" } : Jvm.MethodName) ({ cls := "TaskCores", name := "part", desc := "(IIJ)I" } : Jvm.MethodName)) ∈ md_Ts := mw_2 52 rfl rfl
theorem tw_293 : (Jvm.Cond.code ({ cls := "TaskCores", name := "part", desc := "(IIJ)I" } : Jvm.MethodName) prog_1_method_3_code (8 : Nat) (Option.some Jvm.ClassFile.FieldType.int)) ∈ md_Ts := mw_2 53 rfl rfl
theorem tw_294 : (Jvm.Cond.methodLink "TaskCores" (74 : Nat) ({ cls := "TaskCores", name := "taskOf", desc := "(I)LTaskCores$Task;" } : Jvm.MethodName)) ∈ md_Ts := mw_2 54 rfl rfl
theorem tw_296 : (Jvm.Cond.instanceMethod ({ cls := "TaskCores", name := "taskOf", desc := "(I)LTaskCores$Task;" } : Jvm.MethodName)) ∈ md_Ts := mw_2 56 rfl rfl
theorem tw_297 : (Jvm.Cond.code ({ cls := "TaskCores", name := "taskOf", desc := "(I)LTaskCores$Task;" } : Jvm.MethodName) prog_1_method_19_code (2 : Nat) (Option.some (Jvm.ClassFile.FieldType.object "TaskCores$Task"))) ∈ md_Ts := mw_2 57 rfl rfl
theorem tw_298 : (Jvm.Cond.methodLink "TaskCores" (78 : Nat) ({ cls := "TaskCores", name := "mayBePart", desc := "(IJ)Z" } : Jvm.MethodName)) ∈ md_Ts := mw_2 58 rfl rfl
theorem tw_299 : (Jvm.Cond.static ({ cls := "TaskCores", name := "mayBePart", desc := "(IJ)Z" } : Jvm.MethodName)) ∈ md_Ts := mw_2 59 rfl rfl
theorem tw_300 : (Jvm.Cond.code ({ cls := "TaskCores", name := "mayBePart", desc := "(IJ)Z" } : Jvm.MethodName) prog_1_method_23_code (3 : Nat) (Option.some Jvm.ClassFile.FieldType.boolean)) ∈ md_Ts := mw_2 60 rfl rfl
theorem tw_301 : (Jvm.Cond.fieldLink "TaskCores" (211 : Nat) "TaskCores" "LEAST_VALUE" "[I") ∈ md_Ts := mw_2 61 rfl rfl
theorem tw_303 : (Jvm.Cond.fieldLink "TaskCores" (215 : Nat) "TaskCores" "MOST_VALUE" "[I") ∈ md_Ts := mw_2 63 rfl rfl
theorem tw_305 : (Jvm.Cond.constantLong "TaskCores" (218 : Nat) (65536 : Int64)) ∈ md_Ts := mw_2 65 rfl rfl
theorem tw_306 : (Jvm.Cond.methodLink "TaskCores" (85 : Nat) ({ cls := "TaskCores", name := "resourceOf", desc := "(I)LTaskCores$Resource;" } : Jvm.MethodName)) ∈ md_Ts := mw_2 66 rfl rfl
theorem tw_308 : (Jvm.Cond.instanceMethod ({ cls := "TaskCores", name := "resourceOf", desc := "(I)LTaskCores$Resource;" } : Jvm.MethodName)) ∈ md_Ts := mw_2 68 rfl rfl
theorem tw_309 : (Jvm.Cond.code ({ cls := "TaskCores", name := "resourceOf", desc := "(I)LTaskCores$Resource;" } : Jvm.MethodName) prog_1_method_20_code (2 : Nat) (Option.some (Jvm.ClassFile.FieldType.object "TaskCores$Resource"))) ∈ md_Ts := mw_2 69 rfl rfl
theorem tw_310 : (Jvm.Cond.methodLink "TaskCores" (95 : Nat) ({ cls := "java/lang/Math", name := "max", desc := "(II)I" } : Jvm.MethodName)) ∈ md_Ts := mw_2 70 rfl rfl
theorem tw_311 : (Jvm.Cond.classLink "TaskCores" (101 : Nat) "TaskCores$Part") ∈ md_Ts := mw_2 71 rfl rfl
theorem tw_312 : (Jvm.Cond.methodLink "TaskCores" (103 : Nat) ({ cls := "TaskCores$Part", name := "<init>", desc := "(II)V" } : Jvm.MethodName)) ∈ md_Ts := mw_2 72 rfl rfl
theorem tw_313 : (Jvm.Cond.methodLink "TaskCores" (106 : Nat) ({ cls := "TaskCores$Task", name := "addPart", desc := "(LTaskCores$Part;)I" } : Jvm.MethodName)) ∈ md_Ts := mw_2 73 rfl rfl
theorem tw_314 : (Jvm.Cond.instanceMethod ({ cls := "TaskCores$Task", name := "addPart", desc := "(LTaskCores$Part;)I" } : Jvm.MethodName)) ∈ md_Ts := mw_2 74 rfl rfl
theorem tw_315 : (Jvm.Cond.selects "TaskCores$Task" ({ cls := "TaskCores$Task", name := "addPart", desc := "(LTaskCores$Part;)I" } : Jvm.MethodName) ({ cls := "TaskCores$Task", name := "addPart", desc := "(LTaskCores$Part;)I" } : Jvm.MethodName)) ∈ md_Ts := mw_2 75 rfl rfl
theorem tw_316 : (Jvm.Cond.code ({ cls := "TaskCores$Task", name := "addPart", desc := "(LTaskCores$Part;)I" } : Jvm.MethodName) prog_9_method_2_code (5 : Nat) (Option.some Jvm.ClassFile.FieldType.int)) ∈ md_Ts := mw_2 76 rfl rfl
theorem tw_317 : (Jvm.Cond.methodLink "TaskCoresLaw" (33 : Nat) ({ cls := "TaskCores", name := "manner", desc := "(IZ)I" } : Jvm.MethodName)) ∈ md_Ts := mw_2 77 rfl rfl
theorem tw_318 : (Jvm.Cond.instanceMethod ({ cls := "TaskCores", name := "manner", desc := "(IZ)I" } : Jvm.MethodName)) ∈ md_Ts := mw_2 78 rfl rfl
theorem tw_319 : (Jvm.Cond.selects "TaskCores" ({ cls := "TaskCores", name := "manner", desc := "(IZ)I" } : Jvm.MethodName) ({ cls := "TaskCores", name := "manner", desc := "(IZ)I" } : Jvm.MethodName)) ∈ md_Ts := mw_2 79 rfl rfl
theorem tw_320 : (Jvm.Cond.code ({ cls := "TaskCores", name := "manner", desc := "(IZ)I" } : Jvm.MethodName) prog_1_method_4_code (4 : Nat) (Option.some Jvm.ClassFile.FieldType.int)) ∈ md_Ts := mw_2 80 rfl rfl
theorem tw_321 : (Jvm.Cond.methodLink "TaskCoresLaw" (38 : Nat) ({ cls := "TaskCores", name := "activate", desc := "(IJ)I" } : Jvm.MethodName)) ∈ md_Ts := mw_2 81 rfl rfl
theorem tw_322 : (Jvm.Cond.instanceMethod ({ cls := "TaskCores", name := "activate", desc := "(IJ)I" } : Jvm.MethodName)) ∈ md_Ts := mw_2 82 rfl rfl
theorem tw_323 : (Jvm.Cond.selects "TaskCores" ({ cls := "TaskCores", name := "activate", desc := "(IJ)I" } : Jvm.MethodName) ({ cls := "TaskCores", name := "activate", desc := "(IJ)I" } : Jvm.MethodName)) ∈ md_Ts := mw_2 83 rfl rfl
theorem tw_324 : (Jvm.Cond.code ({ cls := "TaskCores", name := "activate", desc := "(IJ)I" } : Jvm.MethodName) prog_1_method_5_code (5 : Nat) (Option.some Jvm.ClassFile.FieldType.int)) ∈ md_Ts := mw_2 84 rfl rfl
theorem tw_325 : (Jvm.Cond.methodLink "TaskCores" (114 : Nat) ({ cls := "TaskCores", name := "isToCome", desc := "(J)Z" } : Jvm.MethodName)) ∈ md_Ts := mw_2 85 rfl rfl
theorem tw_327 : (Jvm.Cond.instanceMethod ({ cls := "TaskCores", name := "isToCome", desc := "(J)Z" } : Jvm.MethodName)) ∈ md_Ts := mw_2 87 rfl rfl
theorem tw_328 : (Jvm.Cond.code ({ cls := "TaskCores", name := "isToCome", desc := "(J)Z" } : Jvm.MethodName) prog_1_method_22_code (3 : Nat) (Option.some Jvm.ClassFile.FieldType.boolean)) ∈ md_Ts := mw_2 88 rfl rfl
theorem tw_329 : (Jvm.Cond.constantLong "TaskCores" (209 : Nat) (50000 : Int64)) ∈ md_Ts := mw_2 89 rfl rfl
theorem tw_330 : (Jvm.Cond.classLink "TaskCores" (121 : Nat) "TaskCores$Telling") ∈ md_Ts := mw_2 90 rfl rfl
theorem tw_331 : (Jvm.Cond.instantiable "TaskCores$Telling" (3 : Nat)) ∈ md_Ts := mw_2 91 rfl rfl
theorem tw_332 : (Jvm.Cond.methodLink "TaskCores" (123 : Nat) ({ cls := "TaskCores$Telling", name := "<init>", desc := "(LTaskCores$Task;I)V" } : Jvm.MethodName)) ∈ md_Ts := mw_2 92 rfl rfl
theorem tw_333 : (Jvm.Cond.instanceMethod ({ cls := "TaskCores$Telling", name := "<init>", desc := "(LTaskCores$Task;I)V" } : Jvm.MethodName)) ∈ md_Ts := mw_2 93 rfl rfl
theorem tw_334 : (Jvm.Cond.code ({ cls := "TaskCores$Telling", name := "<init>", desc := "(LTaskCores$Task;I)V" } : Jvm.MethodName) prog_10_method_1_code (3 : Nat) (Option.none : Option Jvm.ClassFile.FieldType)) ∈ md_Ts := mw_2 94 rfl rfl
theorem tw_335 : (Jvm.Cond.methodLink "TaskCores$Telling" (1 : Nat) ({ cls := "java/lang/Object", name := "<init>", desc := "()V" } : Jvm.MethodName)) ∈ md_Ts := mw_2 95 rfl rfl
theorem tw_336 : (Jvm.Cond.fieldLink "TaskCores$Telling" (7 : Nat) "TaskCores$Telling" "task" "LTaskCores$Task;") ∈ md_Ts := mw_2 96 rfl rfl
theorem tw_337 : (Jvm.Cond.fieldLink "TaskCores" (228 : Nat) "TaskCores$Telling" "task" "LTaskCores$Task;") ∈ md_Ts := mw_2 97 rfl rfl
theorem tw_338 : (Jvm.Cond.fieldLink "TaskCores$Telling" (13 : Nat) "TaskCores$Telling" "time" "I") ∈ md_Ts := mw_2 98 rfl rfl
theorem tw_339 : (Jvm.Cond.fieldLink "TaskCores" (224 : Nat) "TaskCores$Telling" "time" "I") ∈ md_Ts := mw_2 99 rfl rfl
theorem tw_340 : (Jvm.Cond.fieldLink "TaskCores" (225 : Nat) "TaskCores$Telling" "next" "LTaskCores$Telling;") ∈ md_Ts := mw_2 100 rfl rfl
theorem tw_348 : (Jvm.Cond.methodLink "TaskCores" (126 : Nat) ({ cls := "TaskCores", name := "addTelling", desc := "(LTaskCores$Telling;)V" } : Jvm.MethodName)) ∈ md_Ts := mw_2 108 rfl rfl
theorem tw_350 : (Jvm.Cond.instanceMethod ({ cls := "TaskCores", name := "addTelling", desc := "(LTaskCores$Telling;)V" } : Jvm.MethodName)) ∈ md_Ts := mw_2 110 rfl rfl
theorem tw_351 : (Jvm.Cond.code ({ cls := "TaskCores", name := "addTelling", desc := "(LTaskCores$Telling;)V" } : Jvm.MethodName) prog_1_method_24_code (4 : Nat) (Option.none : Option Jvm.ClassFile.FieldType)) ∈ md_Ts := mw_2 111 rfl rfl
theorem tw_352 : (Jvm.Cond.methodLink "TaskCoresLaw" (43 : Nat) ({ cls := "TaskCores", name := "interrupt", desc := "(IJJ)I" } : Jvm.MethodName)) ∈ md_Ts := mw_2 112 rfl rfl
theorem tw_353 : (Jvm.Cond.instanceMethod ({ cls := "TaskCores", name := "interrupt", desc := "(IJJ)I" } : Jvm.MethodName)) ∈ md_Ts := mw_2 113 rfl rfl
theorem tw_354 : (Jvm.Cond.selects "TaskCores" ({ cls := "TaskCores", name := "interrupt", desc := "(IJJ)I" } : Jvm.MethodName) ({ cls := "TaskCores", name := "interrupt", desc := "(IJJ)I" } : Jvm.MethodName)) ∈ md_Ts := mw_2 114 rfl rfl
theorem tw_355 : (Jvm.Cond.code ({ cls := "TaskCores", name := "interrupt", desc := "(IJJ)I" } : Jvm.MethodName) prog_1_method_6_code (6 : Nat) (Option.some Jvm.ClassFile.FieldType.int)) ∈ md_Ts := mw_2 115 rfl rfl
theorem tw_356 : (Jvm.Cond.constantLong "TaskCores" (130 : Nat) (10000 : Int64)) ∈ md_Ts := mw_2 116 rfl rfl
theorem tw_357 : (Jvm.Cond.classLink "TaskCores" (135 : Nat) "TaskCores$Interrupt") ∈ md_Ts := mw_2 117 rfl rfl
theorem tw_358 : (Jvm.Cond.instantiable "TaskCores$Interrupt" (4 : Nat)) ∈ md_Ts := mw_2 118 rfl rfl
theorem tw_359 : (Jvm.Cond.methodLink "TaskCores" (137 : Nat) ({ cls := "TaskCores$Interrupt", name := "<init>", desc := "(III)V" } : Jvm.MethodName)) ∈ md_Ts := mw_2 119 rfl rfl
theorem tw_360 : (Jvm.Cond.instanceMethod ({ cls := "TaskCores$Interrupt", name := "<init>", desc := "(III)V" } : Jvm.MethodName)) ∈ md_Ts := mw_2 120 rfl rfl
theorem tw_361 : (Jvm.Cond.code ({ cls := "TaskCores$Interrupt", name := "<init>", desc := "(III)V" } : Jvm.MethodName) prog_3_method_1_code (4 : Nat) (Option.none : Option Jvm.ClassFile.FieldType)) ∈ md_Ts := mw_2 121 rfl rfl
theorem tw_362 : (Jvm.Cond.methodLink "TaskCores$Interrupt" (1 : Nat) ({ cls := "java/lang/Object", name := "<init>", desc := "()V" } : Jvm.MethodName)) ∈ md_Ts := mw_2 122 rfl rfl
theorem tw_363 : (Jvm.Cond.fieldLink "TaskCores$Interrupt" (7 : Nat) "TaskCores$Interrupt" "level" "I") ∈ md_Ts := mw_2 123 rfl rfl
theorem tw_364 : (Jvm.Cond.fieldLink "TaskCores$Interrupts" (19 : Nat) "TaskCores$Interrupt" "level" "I") ∈ md_Ts := mw_2 124 rfl rfl
theorem tw_365 : (Jvm.Cond.fieldLink "TaskCores" (387 : Nat) "TaskCores$Interrupt" "level" "I") ∈ md_Ts := mw_2 125 rfl rfl
theorem tw_366 : (Jvm.Cond.fieldLink "TaskCores$Interrupt" (13 : Nat) "TaskCores$Interrupt" "at" "I") ∈ md_Ts := mw_2 126 rfl rfl
theorem tw_367 : (Jvm.Cond.fieldLink "TaskCores$Interrupts" (27 : Nat) "TaskCores$Interrupt" "at" "I") ∈ md_Ts := mw_2 127 rfl rfl
theorem tw_368 : (Jvm.Cond.fieldLink "TaskCores$Interrupt" (16 : Nat) "TaskCores$Interrupt" "left" "I") ∈ md_Ts := mw_2 128 rfl rfl
theorem tw_369 : (Jvm.Cond.fieldLink "TaskCores$Interrupts" (44 : Nat) "TaskCores$Interrupt" "left" "I") ∈ md_Ts := mw_2 129 rfl rfl
theorem tw_370 : (Jvm.Cond.fieldLink "TaskCores" (380 : Nat) "TaskCores$Interrupt" "left" "I") ∈ md_Ts := mw_2 130 rfl rfl
theorem tw_371 : (Jvm.Cond.fieldLink "TaskCores$Interrupts" (24 : Nat) "TaskCores$Interrupt" "next" "LTaskCores$Interrupt;") ∈ md_Ts := mw_2 131 rfl rfl
theorem tw_381 : (Jvm.Cond.methodLink "TaskCores" (140 : Nat) ({ cls := "TaskCores$Interrupts", name := "add", desc := "(LTaskCores$Interrupt;)V" } : Jvm.MethodName)) ∈ md_Ts := mw_2 141 rfl rfl
theorem tw_382 : (Jvm.Cond.instanceMethod ({ cls := "TaskCores$Interrupts", name := "add", desc := "(LTaskCores$Interrupt;)V" } : Jvm.MethodName)) ∈ md_Ts := mw_2 142 rfl rfl
theorem tw_383 : (Jvm.Cond.selects "TaskCores$Interrupts" ({ cls := "TaskCores$Interrupts", name := "add", desc := "(LTaskCores$Interrupt;)V" } : Jvm.MethodName) ({ cls := "TaskCores$Interrupts", name := "add", desc := "(LTaskCores$Interrupt;)V" } : Jvm.MethodName)) ∈ md_Ts := mw_2 143 rfl rfl
theorem tw_384 : (Jvm.Cond.code ({ cls := "TaskCores$Interrupts", name := "add", desc := "(LTaskCores$Interrupt;)V" } : Jvm.MethodName) prog_4_method_2_code (4 : Nat) (Option.none : Option Jvm.ClassFile.FieldType)) ∈ md_Ts := mw_2 144 rfl rfl
theorem tw_385 : (Jvm.Cond.methodLink "TaskCoresLaw" (48 : Nat) ({ cls := "TaskCores", name := "run", desc := "(J)I" } : Jvm.MethodName)) ∈ md_Ts := mw_2 145 rfl rfl
theorem tw_386 : (Jvm.Cond.instanceMethod ({ cls := "TaskCores", name := "run", desc := "(J)I" } : Jvm.MethodName)) ∈ md_Ts := mw_2 146 rfl rfl
theorem tw_387 : (Jvm.Cond.selects "TaskCores" ({ cls := "TaskCores", name := "run", desc := "(J)I" } : Jvm.MethodName) ({ cls := "TaskCores", name := "run", desc := "(J)I" } : Jvm.MethodName)) ∈ md_Ts := mw_2 147 rfl rfl
theorem tw_388 : (Jvm.Cond.code ({ cls := "TaskCores", name := "run", desc := "(J)I" } : Jvm.MethodName) prog_1_method_7_code (10 : Nat) (Option.some Jvm.ClassFile.FieldType.int)) ∈ md_Ts := mw_2 148 rfl rfl
theorem tw_389 : (Jvm.Cond.methodLink "TaskCores" (144 : Nat) ({ cls := "TaskCores", name := "activateThoseTold", desc := "()V" } : Jvm.MethodName)) ∈ md_Ts := mw_2 149 rfl rfl
theorem tw_391 : (Jvm.Cond.instanceMethod ({ cls := "TaskCores", name := "activateThoseTold", desc := "()V" } : Jvm.MethodName)) ∈ md_Ts := mw_2 151 rfl rfl
theorem tw_392 : (Jvm.Cond.code ({ cls := "TaskCores", name := "activateThoseTold", desc := "()V" } : Jvm.MethodName) prog_1_method_25_code (2 : Nat) (Option.none : Option Jvm.ClassFile.FieldType)) ∈ md_Ts := mw_2 152 rfl rfl
theorem tw_393 : (Jvm.Cond.methodLink "TaskCores" (231 : Nat) ({ cls := "TaskCores", name := "activateTask", desc := "(LTaskCores$Task;)V" } : Jvm.MethodName)) ∈ md_Ts := mw_2 153 rfl rfl
theorem tw_395 : (Jvm.Cond.instanceMethod ({ cls := "TaskCores", name := "activateTask", desc := "(LTaskCores$Task;)V" } : Jvm.MethodName)) ∈ md_Ts := mw_2 155 rfl rfl
theorem tw_396 : (Jvm.Cond.code ({ cls := "TaskCores", name := "activateTask", desc := "(LTaskCores$Task;)V" } : Jvm.MethodName) prog_1_method_43_code (2 : Nat) (Option.none : Option Jvm.ClassFile.FieldType)) ∈ md_Ts := mw_2 156 rfl rfl
theorem tw_397 : (Jvm.Cond.methodLink "TaskCores" (351 : Nat) ({ cls := "TaskCores", name := "startTask", desc := "(LTaskCores$Task;)V" } : Jvm.MethodName)) ∈ md_Ts := mw_2 157 rfl rfl
theorem tw_399 : (Jvm.Cond.instanceMethod ({ cls := "TaskCores", name := "startTask", desc := "(LTaskCores$Task;)V" } : Jvm.MethodName)) ∈ md_Ts := mw_2 159 rfl rfl
theorem tw_400 : (Jvm.Cond.code ({ cls := "TaskCores", name := "startTask", desc := "(LTaskCores$Task;)V" } : Jvm.MethodName) prog_1_method_46_code (2 : Nat) (Option.none : Option Jvm.ClassFile.FieldType)) ∈ md_Ts := mw_2 160 rfl rfl
theorem tw_401 : (Jvm.Cond.methodLink "TaskCores" (348 : Nat) ({ cls := "TaskCores", name := "makeReady", desc := "(LTaskCores$Task;)V" } : Jvm.MethodName)) ∈ md_Ts := mw_2 161 rfl rfl
theorem tw_403 : (Jvm.Cond.instanceMethod ({ cls := "TaskCores", name := "makeReady", desc := "(LTaskCores$Task;)V" } : Jvm.MethodName)) ∈ md_Ts := mw_2 163 rfl rfl
theorem tw_404 : (Jvm.Cond.code ({ cls := "TaskCores", name := "makeReady", desc := "(LTaskCores$Task;)V" } : Jvm.MethodName) prog_1_method_47_code (2 : Nat) (Option.none : Option Jvm.ClassFile.FieldType)) ∈ md_Ts := mw_2 164 rfl rfl
theorem tw_405 : (Jvm.Cond.methodLink "TaskCores" (319 : Nat) ({ cls := "TaskCores", name := "tellCode", desc := "(ILTaskCores$Task;)V" } : Jvm.MethodName)) ∈ md_Ts := mw_2 165 rfl rfl
theorem tw_407 : (Jvm.Cond.instanceMethod ({ cls := "TaskCores", name := "tellCode", desc := "(ILTaskCores$Task;)V" } : Jvm.MethodName)) ∈ md_Ts := mw_2 167 rfl rfl
theorem tw_408 : (Jvm.Cond.code ({ cls := "TaskCores", name := "tellCode", desc := "(ILTaskCores$Task;)V" } : Jvm.MethodName) prog_1_method_48_code (3 : Nat) (Option.none : Option Jvm.ClassFile.FieldType)) ∈ md_Ts := mw_2 168 rfl rfl
theorem tw_409 : (Jvm.Cond.methodLink "TaskCores" (372 : Nat) ({ cls := "TaskCores$Log", name := "add", desc := "(III)V" } : Jvm.MethodName)) ∈ md_Ts := mw_2 169 rfl rfl
theorem tw_410 : (Jvm.Cond.instanceMethod ({ cls := "TaskCores$Log", name := "add", desc := "(III)V" } : Jvm.MethodName)) ∈ md_Ts := mw_2 170 rfl rfl
theorem tw_411 : (Jvm.Cond.selects "TaskCores$Log" ({ cls := "TaskCores$Log", name := "add", desc := "(III)V" } : Jvm.MethodName) ({ cls := "TaskCores$Log", name := "add", desc := "(III)V" } : Jvm.MethodName)) ∈ md_Ts := mw_2 171 rfl rfl
theorem tw_412 : (Jvm.Cond.code ({ cls := "TaskCores$Log", name := "add", desc := "(III)V" } : Jvm.MethodName) prog_6_method_2_code (6 : Nat) (Option.none : Option Jvm.ClassFile.FieldType)) ∈ md_Ts := mw_2 172 rfl rfl
theorem tw_413 : (Jvm.Cond.methodLink "TaskCores" (147 : Nat) ({ cls := "TaskCores", name := "takeSteps", desc := "()V" } : Jvm.MethodName)) ∈ md_Ts := mw_2 173 rfl rfl
theorem tw_415 : (Jvm.Cond.instanceMethod ({ cls := "TaskCores", name := "takeSteps", desc := "()V" } : Jvm.MethodName)) ∈ md_Ts := mw_2 175 rfl rfl
theorem tw_416 : (Jvm.Cond.code ({ cls := "TaskCores", name := "takeSteps", desc := "()V" } : Jvm.MethodName) prog_1_method_26_code (9 : Nat) (Option.none : Option Jvm.ClassFile.FieldType)) ∈ md_Ts := mw_2 176 rfl rfl
theorem tw_417 : (Jvm.Cond.methodLink "TaskCores" (234 : Nat) ({ cls := "TaskCores", name := "taskWithStep", desc := "(LTaskCores$Core;)LTaskCores$Task;" } : Jvm.MethodName)) ∈ md_Ts := mw_2 177 rfl rfl
theorem tw_419 : (Jvm.Cond.instanceMethod ({ cls := "TaskCores", name := "taskWithStep", desc := "(LTaskCores$Core;)LTaskCores$Task;" } : Jvm.MethodName)) ∈ md_Ts := mw_2 179 rfl rfl
theorem tw_420 : (Jvm.Cond.code ({ cls := "TaskCores", name := "taskWithStep", desc := "(LTaskCores$Core;)LTaskCores$Task;" } : Jvm.MethodName) prog_1_method_27_code (5 : Nat) (Option.some (Jvm.ClassFile.FieldType.object "TaskCores$Task"))) ∈ md_Ts := mw_2 180 rfl rfl
theorem tw_421 : (Jvm.Cond.methodLink "TaskCores" (241 : Nat) ({ cls := "TaskCores$Interrupts", name := "atHand", desc := "(I)LTaskCores$Interrupt;" } : Jvm.MethodName)) ∈ md_Ts := mw_2 181 rfl rfl
theorem tw_422 : (Jvm.Cond.instanceMethod ({ cls := "TaskCores$Interrupts", name := "atHand", desc := "(I)LTaskCores$Interrupt;" } : Jvm.MethodName)) ∈ md_Ts := mw_2 182 rfl rfl
theorem tw_423 : (Jvm.Cond.selects "TaskCores$Interrupts" ({ cls := "TaskCores$Interrupts", name := "atHand", desc := "(I)LTaskCores$Interrupt;" } : Jvm.MethodName) ({ cls := "TaskCores$Interrupts", name := "atHand", desc := "(I)LTaskCores$Interrupt;" } : Jvm.MethodName)) ∈ md_Ts := mw_2 183 rfl rfl
theorem tw_424 : (Jvm.Cond.code ({ cls := "TaskCores$Interrupts", name := "atHand", desc := "(I)LTaskCores$Interrupt;" } : Jvm.MethodName) prog_4_method_3_code (3 : Nat) (Option.some (Jvm.ClassFile.FieldType.object "TaskCores$Interrupt"))) ∈ md_Ts := mw_2 184 rfl rfl
theorem tw_425 : (Jvm.Cond.methodLink "TaskCores" (153 : Nat) ({ cls := "TaskCores", name := "choose", desc := "(LTaskCores$Core;)V" } : Jvm.MethodName)) ∈ md_Ts := mw_2 185 rfl rfl
theorem tw_427 : (Jvm.Cond.instanceMethod ({ cls := "TaskCores", name := "choose", desc := "(LTaskCores$Core;)V" } : Jvm.MethodName)) ∈ md_Ts := mw_2 187 rfl rfl
theorem tw_428 : (Jvm.Cond.code ({ cls := "TaskCores", name := "choose", desc := "(LTaskCores$Core;)V" } : Jvm.MethodName) prog_1_method_28_code (5 : Nat) (Option.none : Option Jvm.ClassFile.FieldType)) ∈ md_Ts := mw_2 188 rfl rfl
theorem tw_429 : (Jvm.Cond.methodLink "TaskCores" (268 : Nat) ({ cls := "TaskCores$Task", name := "comesBefore", desc := "(LTaskCores$Task;)Z" } : Jvm.MethodName)) ∈ md_Ts := mw_2 189 rfl rfl
theorem tw_430 : (Jvm.Cond.instanceMethod ({ cls := "TaskCores$Task", name := "comesBefore", desc := "(LTaskCores$Task;)Z" } : Jvm.MethodName)) ∈ md_Ts := mw_2 190 rfl rfl
theorem tw_431 : (Jvm.Cond.selects "TaskCores$Task" ({ cls := "TaskCores$Task", name := "comesBefore", desc := "(LTaskCores$Task;)Z" } : Jvm.MethodName) ({ cls := "TaskCores$Task", name := "comesBefore", desc := "(LTaskCores$Task;)Z" } : Jvm.MethodName)) ∈ md_Ts := mw_2 191 rfl rfl
theorem tw_432 : (Jvm.Cond.code ({ cls := "TaskCores$Task", name := "comesBefore", desc := "(LTaskCores$Task;)Z" } : Jvm.MethodName) prog_9_method_5_code (4 : Nat) (Option.some Jvm.ClassFile.FieldType.boolean)) ∈ md_Ts := mw_2 192 rfl rfl
theorem tw_433 : (Jvm.Cond.methodLink "TaskCores$Task" (65 : Nat) ({ cls := "TaskCores$Task", name := "height", desc := "()I" } : Jvm.MethodName)) ∈ md_Ts := mw_2 193 rfl rfl
theorem tw_434 : (Jvm.Cond.instanceMethod ({ cls := "TaskCores$Task", name := "height", desc := "()I" } : Jvm.MethodName)) ∈ md_Ts := mw_2 194 rfl rfl
theorem tw_435 : (Jvm.Cond.selects "TaskCores$Task" ({ cls := "TaskCores$Task", name := "height", desc := "()I" } : Jvm.MethodName) ({ cls := "TaskCores$Task", name := "height", desc := "()I" } : Jvm.MethodName)) ∈ md_Ts := mw_2 195 rfl rfl
theorem tw_436 : (Jvm.Cond.code ({ cls := "TaskCores$Task", name := "height", desc := "()I" } : Jvm.MethodName) prog_9_method_4_code (3 : Nat) (Option.some Jvm.ClassFile.FieldType.int)) ∈ md_Ts := mw_2 196 rfl rfl
theorem tw_437 : (Jvm.Cond.methodLink "TaskCores$Task" (56 : Nat) ({ cls := "java/lang/Math", name := "max", desc := "(II)I" } : Jvm.MethodName)) ∈ md_Ts := mw_2 197 rfl rfl
theorem tw_438 : (Jvm.Cond.methodLink "TaskCores" (189 : Nat) ({ cls := "TaskCores", name := "lockOf", desc := "(I)LTaskCores$Lock;" } : Jvm.MethodName)) ∈ md_Ts := mw_2 198 rfl rfl
theorem tw_440 : (Jvm.Cond.instanceMethod ({ cls := "TaskCores", name := "lockOf", desc := "(I)LTaskCores$Lock;" } : Jvm.MethodName)) ∈ md_Ts := mw_2 200 rfl rfl
theorem tw_441 : (Jvm.Cond.code ({ cls := "TaskCores", name := "lockOf", desc := "(I)LTaskCores$Lock;" } : Jvm.MethodName) prog_1_method_21_code (2 : Nat) (Option.some (Jvm.ClassFile.FieldType.object "TaskCores$Lock"))) ∈ md_Ts := mw_2 201 rfl rfl
theorem tw_442 : (Jvm.Cond.methodLink "TaskCores" (258 : Nat) ({ cls := "TaskCores", name := "startsToSpin", desc := "(LTaskCores$Task;LTaskCores$Lock;)Z" } : Jvm.MethodName)) ∈ md_Ts := mw_2 202 rfl rfl
theorem tw_443 : (Jvm.Cond.static ({ cls := "TaskCores", name := "startsToSpin", desc := "(LTaskCores$Task;LTaskCores$Lock;)Z" } : Jvm.MethodName)) ∈ md_Ts := mw_2 203 rfl rfl
theorem tw_444 : (Jvm.Cond.code ({ cls := "TaskCores", name := "startsToSpin", desc := "(LTaskCores$Task;LTaskCores$Lock;)Z" } : Jvm.MethodName) prog_1_method_29_code (2 : Nat) (Option.some Jvm.ClassFile.FieldType.boolean)) ∈ md_Ts := mw_2 204 rfl rfl
theorem tw_445 : (Jvm.Cond.methodLink "TaskCores" (275 : Nat) ({ cls := "TaskCores$Lock", name := "addToQueue", desc := "(LTaskCores$Task;)V" } : Jvm.MethodName)) ∈ md_Ts := mw_2 205 rfl rfl
theorem tw_446 : (Jvm.Cond.instanceMethod ({ cls := "TaskCores$Lock", name := "addToQueue", desc := "(LTaskCores$Task;)V" } : Jvm.MethodName)) ∈ md_Ts := mw_2 206 rfl rfl
theorem tw_447 : (Jvm.Cond.selects "TaskCores$Lock" ({ cls := "TaskCores$Lock", name := "addToQueue", desc := "(LTaskCores$Task;)V" } : Jvm.MethodName) ({ cls := "TaskCores$Lock", name := "addToQueue", desc := "(LTaskCores$Task;)V" } : Jvm.MethodName)) ∈ md_Ts := mw_2 207 rfl rfl
theorem tw_448 : (Jvm.Cond.code ({ cls := "TaskCores$Lock", name := "addToQueue", desc := "(LTaskCores$Task;)V" } : Jvm.MethodName) prog_5_method_2_code (4 : Nat) (Option.none : Option Jvm.ClassFile.FieldType)) ∈ md_Ts := mw_2 208 rfl rfl
theorem tw_449 : (Jvm.Cond.methodLink "TaskCores" (237 : Nat) ({ cls := "TaskCores", name := "doNextPart", desc := "(LTaskCores$Task;)V" } : Jvm.MethodName)) ∈ md_Ts := mw_2 209 rfl rfl
theorem tw_451 : (Jvm.Cond.instanceMethod ({ cls := "TaskCores", name := "doNextPart", desc := "(LTaskCores$Task;)V" } : Jvm.MethodName)) ∈ md_Ts := mw_2 211 rfl rfl
theorem tw_452 : (Jvm.Cond.code ({ cls := "TaskCores", name := "doNextPart", desc := "(LTaskCores$Task;)V" } : Jvm.MethodName) prog_1_method_30_code (4 : Nat) (Option.none : Option Jvm.ClassFile.FieldType)) ∈ md_Ts := mw_2 212 rfl rfl
theorem tw_453 : (Jvm.Cond.methodLink "TaskCores" (278 : Nat) ({ cls := "TaskCores", name := "endTask", desc := "(LTaskCores$Task;)V" } : Jvm.MethodName)) ∈ md_Ts := mw_2 213 rfl rfl
theorem tw_455 : (Jvm.Cond.instanceMethod ({ cls := "TaskCores", name := "endTask", desc := "(LTaskCores$Task;)V" } : Jvm.MethodName)) ∈ md_Ts := mw_2 215 rfl rfl
theorem tw_456 : (Jvm.Cond.code ({ cls := "TaskCores", name := "endTask", desc := "(LTaskCores$Task;)V" } : Jvm.MethodName) prog_1_method_44_code (2 : Nat) (Option.none : Option Jvm.ClassFile.FieldType)) ∈ md_Ts := mw_2 216 rfl rfl
theorem tw_457 : (Jvm.Cond.methodLink "TaskCores" (360 : Nat) ({ cls := "TaskCores", name := "freeAll", desc := "(LTaskCores$Task;)Z" } : Jvm.MethodName)) ∈ md_Ts := mw_2 217 rfl rfl
theorem tw_459 : (Jvm.Cond.instanceMethod ({ cls := "TaskCores", name := "freeAll", desc := "(LTaskCores$Task;)Z" } : Jvm.MethodName)) ∈ md_Ts := mw_2 219 rfl rfl
theorem tw_460 : (Jvm.Cond.code ({ cls := "TaskCores", name := "freeAll", desc := "(LTaskCores$Task;)Z" } : Jvm.MethodName) prog_1_method_45_code (7 : Nat) (Option.some Jvm.ClassFile.FieldType.boolean)) ∈ md_Ts := mw_2 220 rfl rfl
theorem tw_461 : (Jvm.Cond.methodLink "TaskCores" (339 : Nat) ({ cls := "TaskCores$Lock", name := "handOn", desc := "()V" } : Jvm.MethodName)) ∈ md_Ts := mw_2 221 rfl rfl
theorem tw_462 : (Jvm.Cond.instanceMethod ({ cls := "TaskCores$Lock", name := "handOn", desc := "()V" } : Jvm.MethodName)) ∈ md_Ts := mw_2 222 rfl rfl
theorem tw_463 : (Jvm.Cond.selects "TaskCores$Lock" ({ cls := "TaskCores$Lock", name := "handOn", desc := "()V" } : Jvm.MethodName) ({ cls := "TaskCores$Lock", name := "handOn", desc := "()V" } : Jvm.MethodName)) ∈ md_Ts := mw_2 223 rfl rfl
theorem tw_464 : (Jvm.Cond.code ({ cls := "TaskCores$Lock", name := "handOn", desc := "()V" } : Jvm.MethodName) prog_5_method_4_code (2 : Nat) (Option.none : Option Jvm.ClassFile.FieldType)) ∈ md_Ts := mw_2 224 rfl rfl
theorem tw_465 : (Jvm.Cond.methodLink "TaskCores" (283 : Nat) ({ cls := "TaskCores", name := "activateByTask", desc := "(LTaskCores$Task;I)V" } : Jvm.MethodName)) ∈ md_Ts := mw_2 225 rfl rfl
theorem tw_467 : (Jvm.Cond.instanceMethod ({ cls := "TaskCores", name := "activateByTask", desc := "(LTaskCores$Task;I)V" } : Jvm.MethodName)) ∈ md_Ts := mw_2 227 rfl rfl
theorem tw_468 : (Jvm.Cond.code ({ cls := "TaskCores", name := "activateByTask", desc := "(LTaskCores$Task;I)V" } : Jvm.MethodName) prog_1_method_31_code (4 : Nat) (Option.none : Option Jvm.ClassFile.FieldType)) ∈ md_Ts := mw_2 228 rfl rfl
theorem tw_469 : (Jvm.Cond.methodLink "TaskCores" (286 : Nat) ({ cls := "TaskCores", name := "chain", desc := "(LTaskCores$Task;I)V" } : Jvm.MethodName)) ∈ md_Ts := mw_2 229 rfl rfl
theorem tw_471 : (Jvm.Cond.instanceMethod ({ cls := "TaskCores", name := "chain", desc := "(LTaskCores$Task;I)V" } : Jvm.MethodName)) ∈ md_Ts := mw_2 231 rfl rfl
theorem tw_472 : (Jvm.Cond.code ({ cls := "TaskCores", name := "chain", desc := "(LTaskCores$Task;I)V" } : Jvm.MethodName) prog_1_method_32_code (4 : Nat) (Option.none : Option Jvm.ClassFile.FieldType)) ∈ md_Ts := mw_2 232 rfl rfl
theorem tw_473 : (Jvm.Cond.methodLink "TaskCores" (289 : Nat) ({ cls := "TaskCores", name := "waitFor", desc := "(LTaskCores$Task;I)V" } : Jvm.MethodName)) ∈ md_Ts := mw_2 233 rfl rfl
theorem tw_475 : (Jvm.Cond.instanceMethod ({ cls := "TaskCores", name := "waitFor", desc := "(LTaskCores$Task;I)V" } : Jvm.MethodName)) ∈ md_Ts := mw_2 235 rfl rfl
theorem tw_476 : (Jvm.Cond.code ({ cls := "TaskCores", name := "waitFor", desc := "(LTaskCores$Task;I)V" } : Jvm.MethodName) prog_1_method_33_code (3 : Nat) (Option.none : Option Jvm.ClassFile.FieldType)) ∈ md_Ts := mw_2 236 rfl rfl
theorem tw_477 : (Jvm.Cond.constant "TaskCores" (175 : Nat) (65536 : Int32)) ∈ md_Ts := mw_2 237 rfl rfl
theorem tw_478 : (Jvm.Cond.methodLink "TaskCores" (292 : Nat) ({ cls := "TaskCores", name := "setByTask", desc := "(LTaskCores$Task;II)V" } : Jvm.MethodName)) ∈ md_Ts := mw_2 238 rfl rfl
theorem tw_480 : (Jvm.Cond.instanceMethod ({ cls := "TaskCores", name := "setByTask", desc := "(LTaskCores$Task;II)V" } : Jvm.MethodName)) ∈ md_Ts := mw_3 0 rfl rfl
theorem tw_481 : (Jvm.Cond.code ({ cls := "TaskCores", name := "setByTask", desc := "(LTaskCores$Task;II)V" } : Jvm.MethodName) prog_1_method_34_code (5 : Nat) (Option.none : Option Jvm.ClassFile.FieldType)) ∈ md_Ts := mw_3 1 rfl rfl
theorem tw_482 : (Jvm.Cond.methodLink "TaskCores" (176 : Nat) ({ cls := "TaskCores$Task", name := "mayBeSet", desc := "()Z" } : Jvm.MethodName)) ∈ md_Ts := mw_3 2 rfl rfl
theorem tw_483 : (Jvm.Cond.instanceMethod ({ cls := "TaskCores$Task", name := "mayBeSet", desc := "()Z" } : Jvm.MethodName)) ∈ md_Ts := mw_3 3 rfl rfl
theorem tw_484 : (Jvm.Cond.selects "TaskCores$Task" ({ cls := "TaskCores$Task", name := "mayBeSet", desc := "()Z" } : Jvm.MethodName) ({ cls := "TaskCores$Task", name := "mayBeSet", desc := "()Z" } : Jvm.MethodName)) ∈ md_Ts := mw_3 4 rfl rfl
theorem tw_485 : (Jvm.Cond.code ({ cls := "TaskCores$Task", name := "mayBeSet", desc := "()Z" } : Jvm.MethodName) prog_9_method_3_code (1 : Nat) (Option.some Jvm.ClassFile.FieldType.boolean)) ∈ md_Ts := mw_3 5 rfl rfl
theorem tw_486 : (Jvm.Cond.methodLink "TaskCores" (180 : Nat) ({ cls := "TaskCores", name := "setEvents", desc := "(LTaskCores$Task;I)V" } : Jvm.MethodName)) ∈ md_Ts := mw_3 6 rfl rfl
theorem tw_488 : (Jvm.Cond.instanceMethod ({ cls := "TaskCores", name := "setEvents", desc := "(LTaskCores$Task;I)V" } : Jvm.MethodName)) ∈ md_Ts := mw_3 8 rfl rfl
theorem tw_489 : (Jvm.Cond.code ({ cls := "TaskCores", name := "setEvents", desc := "(LTaskCores$Task;I)V" } : Jvm.MethodName) prog_1_method_42_code (3 : Nat) (Option.none : Option Jvm.ClassFile.FieldType)) ∈ md_Ts := mw_3 9 rfl rfl
theorem tw_490 : (Jvm.Cond.methodLink "TaskCores" (296 : Nat) ({ cls := "TaskCores", name := "clearEvents", desc := "(LTaskCores$Task;I)V" } : Jvm.MethodName)) ∈ md_Ts := mw_3 10 rfl rfl
theorem tw_492 : (Jvm.Cond.instanceMethod ({ cls := "TaskCores", name := "clearEvents", desc := "(LTaskCores$Task;I)V" } : Jvm.MethodName)) ∈ md_Ts := mw_3 12 rfl rfl
theorem tw_493 : (Jvm.Cond.code ({ cls := "TaskCores", name := "clearEvents", desc := "(LTaskCores$Task;I)V" } : Jvm.MethodName) prog_1_method_35_code (3 : Nat) (Option.none : Option Jvm.ClassFile.FieldType)) ∈ md_Ts := mw_3 13 rfl rfl
theorem tw_494 : (Jvm.Cond.methodLink "TaskCores" (299 : Nat) ({ cls := "TaskCores", name := "getResource", desc := "(LTaskCores$Task;LTaskCores$Resource;)V" } : Jvm.MethodName)) ∈ md_Ts := mw_3 14 rfl rfl
theorem tw_496 : (Jvm.Cond.instanceMethod ({ cls := "TaskCores", name := "getResource", desc := "(LTaskCores$Task;LTaskCores$Resource;)V" } : Jvm.MethodName)) ∈ md_Ts := mw_3 16 rfl rfl
theorem tw_497 : (Jvm.Cond.code ({ cls := "TaskCores", name := "getResource", desc := "(LTaskCores$Task;LTaskCores$Resource;)V" } : Jvm.MethodName) prog_1_method_36_code (3 : Nat) (Option.none : Option Jvm.ClassFile.FieldType)) ∈ md_Ts := mw_3 17 rfl rfl
theorem tw_498 : (Jvm.Cond.methodLink "TaskCores" (303 : Nat) ({ cls := "TaskCores", name := "freeResource", desc := "(LTaskCores$Task;LTaskCores$Resource;)V" } : Jvm.MethodName)) ∈ md_Ts := mw_3 18 rfl rfl
theorem tw_500 : (Jvm.Cond.instanceMethod ({ cls := "TaskCores", name := "freeResource", desc := "(LTaskCores$Task;LTaskCores$Resource;)V" } : Jvm.MethodName)) ∈ md_Ts := mw_3 20 rfl rfl
theorem tw_501 : (Jvm.Cond.code ({ cls := "TaskCores", name := "freeResource", desc := "(LTaskCores$Task;LTaskCores$Resource;)V" } : Jvm.MethodName) prog_1_method_37_code (3 : Nat) (Option.none : Option Jvm.ClassFile.FieldType)) ∈ md_Ts := mw_3 21 rfl rfl
theorem tw_502 : (Jvm.Cond.methodLink "TaskCores" (306 : Nat) ({ cls := "TaskCores", name := "takeLock", desc := "(LTaskCores$Task;LTaskCores$Lock;)V" } : Jvm.MethodName)) ∈ md_Ts := mw_3 22 rfl rfl
theorem tw_504 : (Jvm.Cond.instanceMethod ({ cls := "TaskCores", name := "takeLock", desc := "(LTaskCores$Task;LTaskCores$Lock;)V" } : Jvm.MethodName)) ∈ md_Ts := mw_3 24 rfl rfl
theorem tw_505 : (Jvm.Cond.code ({ cls := "TaskCores", name := "takeLock", desc := "(LTaskCores$Task;LTaskCores$Lock;)V" } : Jvm.MethodName) prog_1_method_38_code (3 : Nat) (Option.none : Option Jvm.ClassFile.FieldType)) ∈ md_Ts := mw_3 25 rfl rfl
theorem tw_506 : (Jvm.Cond.methodLink "TaskCores" (310 : Nat) ({ cls := "TaskCores", name := "unlock", desc := "(LTaskCores$Task;LTaskCores$Lock;)V" } : Jvm.MethodName)) ∈ md_Ts := mw_3 26 rfl rfl
theorem tw_508 : (Jvm.Cond.instanceMethod ({ cls := "TaskCores", name := "unlock", desc := "(LTaskCores$Task;LTaskCores$Lock;)V" } : Jvm.MethodName)) ∈ md_Ts := mw_3 28 rfl rfl
theorem tw_509 : (Jvm.Cond.code ({ cls := "TaskCores", name := "unlock", desc := "(LTaskCores$Task;LTaskCores$Lock;)V" } : Jvm.MethodName) prog_1_method_39_code (3 : Nat) (Option.none : Option Jvm.ClassFile.FieldType)) ∈ md_Ts := mw_3 29 rfl rfl
theorem tw_510 : (Jvm.Cond.methodLink "TaskCores" (313 : Nat) ({ cls := "TaskCores", name := "putOff", desc := "(LTaskCores$Task;I)V" } : Jvm.MethodName)) ∈ md_Ts := mw_3 30 rfl rfl
theorem tw_512 : (Jvm.Cond.instanceMethod ({ cls := "TaskCores", name := "putOff", desc := "(LTaskCores$Task;I)V" } : Jvm.MethodName)) ∈ md_Ts := mw_3 32 rfl rfl
theorem tw_513 : (Jvm.Cond.code ({ cls := "TaskCores", name := "putOff", desc := "(LTaskCores$Task;I)V" } : Jvm.MethodName) prog_1_method_40_code (3 : Nat) (Option.none : Option Jvm.ClassFile.FieldType)) ∈ md_Ts := mw_3 33 rfl rfl
theorem tw_514 : (Jvm.Cond.methodLink "TaskCores" (316 : Nat) ({ cls := "TaskCores", name := "putOn", desc := "(LTaskCores$Task;)V" } : Jvm.MethodName)) ∈ md_Ts := mw_3 34 rfl rfl
theorem tw_516 : (Jvm.Cond.instanceMethod ({ cls := "TaskCores", name := "putOn", desc := "(LTaskCores$Task;)V" } : Jvm.MethodName)) ∈ md_Ts := mw_3 36 rfl rfl
theorem tw_517 : (Jvm.Cond.code ({ cls := "TaskCores", name := "putOn", desc := "(LTaskCores$Task;)V" } : Jvm.MethodName) prog_1_method_41_code (2 : Nat) (Option.none : Option Jvm.ClassFile.FieldType)) ∈ md_Ts := mw_3 37 rfl rfl
theorem tw_518 : (Jvm.Cond.methodLink "TaskCores" (150 : Nat) ({ cls := "TaskCores", name := "tellIfOffTooLong", desc := "()V" } : Jvm.MethodName)) ∈ md_Ts := mw_3 38 rfl rfl
theorem tw_520 : (Jvm.Cond.instanceMethod ({ cls := "TaskCores", name := "tellIfOffTooLong", desc := "()V" } : Jvm.MethodName)) ∈ md_Ts := mw_3 40 rfl rfl
theorem tw_521 : (Jvm.Cond.code ({ cls := "TaskCores", name := "tellIfOffTooLong", desc := "()V" } : Jvm.MethodName) prog_1_method_49_code (2 : Nat) (Option.none : Option Jvm.ClassFile.FieldType)) ∈ md_Ts := mw_3 41 rfl rfl
theorem tw_522 : (Jvm.Cond.methodLink "TaskCores" (157 : Nat) ({ cls := "TaskCores", name := "quietMicroseconds", desc := "(I)I" } : Jvm.MethodName)) ∈ md_Ts := mw_3 42 rfl rfl
theorem tw_524 : (Jvm.Cond.instanceMethod ({ cls := "TaskCores", name := "quietMicroseconds", desc := "(I)I" } : Jvm.MethodName)) ∈ md_Ts := mw_3 44 rfl rfl
theorem tw_525 : (Jvm.Cond.code ({ cls := "TaskCores", name := "quietMicroseconds", desc := "(I)I" } : Jvm.MethodName) prog_1_method_50_code (9 : Nat) (Option.some Jvm.ClassFile.FieldType.int)) ∈ md_Ts := mw_3 45 rfl rfl
theorem tw_526 : (Jvm.Cond.methodLink "TaskCores" (374 : Nat) ({ cls := "TaskCores$Interrupts", name := "nextChange", desc := "(I)I" } : Jvm.MethodName)) ∈ md_Ts := mw_3 46 rfl rfl
theorem tw_527 : (Jvm.Cond.instanceMethod ({ cls := "TaskCores$Interrupts", name := "nextChange", desc := "(I)I" } : Jvm.MethodName)) ∈ md_Ts := mw_3 47 rfl rfl
theorem tw_528 : (Jvm.Cond.selects "TaskCores$Interrupts" ({ cls := "TaskCores$Interrupts", name := "nextChange", desc := "(I)I" } : Jvm.MethodName) ({ cls := "TaskCores$Interrupts", name := "nextChange", desc := "(I)I" } : Jvm.MethodName)) ∈ md_Ts := mw_3 48 rfl rfl
theorem tw_529 : (Jvm.Cond.code ({ cls := "TaskCores$Interrupts", name := "nextChange", desc := "(I)I" } : Jvm.MethodName) prog_4_method_4_code (4 : Nat) (Option.some Jvm.ClassFile.FieldType.int)) ∈ md_Ts := mw_3 49 rfl rfl
theorem tw_530 : (Jvm.Cond.constant "TaskCores$Interrupts" (37 : Nat) (1000000 : Int32)) ∈ md_Ts := mw_3 50 rfl rfl
theorem tw_531 : (Jvm.Cond.methodLink "TaskCores$Interrupts" (38 : Nat) ({ cls := "java/lang/Math", name := "min", desc := "(II)I" } : Jvm.MethodName)) ∈ md_Ts := mw_3 51 rfl rfl
theorem tw_532 : (Jvm.Cond.static ({ cls := "java/lang/Math", name := "min", desc := "(II)I" } : Jvm.MethodName)) ∈ md_Ts := mw_3 52 rfl rfl
theorem tw_533 : (Jvm.Cond.code ({ cls := "java/lang/Math", name := "min", desc := "(II)I" } : Jvm.MethodName) prog_13_method_69_code (2 : Nat) (Option.some Jvm.ClassFile.FieldType.int)) ∈ md_Ts := mw_3 53 rfl rfl
theorem tw_534 : (Jvm.Cond.methodLink "TaskCores" (377 : Nat) ({ cls := "java/lang/Math", name := "min", desc := "(II)I" } : Jvm.MethodName)) ∈ md_Ts := mw_3 54 rfl rfl
theorem tw_535 : (Jvm.Cond.methodLink "TaskCores" (383 : Nat) ({ cls := "TaskCores$Task", name := "leftOfPart", desc := "()I" } : Jvm.MethodName)) ∈ md_Ts := mw_3 55 rfl rfl
theorem tw_536 : (Jvm.Cond.instanceMethod ({ cls := "TaskCores$Task", name := "leftOfPart", desc := "()I" } : Jvm.MethodName)) ∈ md_Ts := mw_3 56 rfl rfl
theorem tw_537 : (Jvm.Cond.selects "TaskCores$Task" ({ cls := "TaskCores$Task", name := "leftOfPart", desc := "()I" } : Jvm.MethodName) ({ cls := "TaskCores$Task", name := "leftOfPart", desc := "()I" } : Jvm.MethodName)) ∈ md_Ts := mw_3 57 rfl rfl
theorem tw_538 : (Jvm.Cond.code ({ cls := "TaskCores$Task", name := "leftOfPart", desc := "()I" } : Jvm.MethodName) prog_9_method_6_code (1 : Nat) (Option.some Jvm.ClassFile.FieldType.int)) ∈ md_Ts := mw_3 58 rfl rfl
theorem tw_539 : (Jvm.Cond.constant "TaskCores$Task" (84 : Nat) (1000000 : Int32)) ∈ md_Ts := mw_3 59 rfl rfl
theorem tw_540 : (Jvm.Cond.methodLink "TaskCores" (161 : Nat) ({ cls := "TaskCores", name := "passMicroseconds", desc := "(I)I" } : Jvm.MethodName)) ∈ md_Ts := mw_3 60 rfl rfl
theorem tw_542 : (Jvm.Cond.instanceMethod ({ cls := "TaskCores", name := "passMicroseconds", desc := "(I)I" } : Jvm.MethodName)) ∈ md_Ts := mw_3 62 rfl rfl
theorem tw_543 : (Jvm.Cond.code ({ cls := "TaskCores", name := "passMicroseconds", desc := "(I)I" } : Jvm.MethodName) prog_1_method_51_code (10 : Nat) (Option.some Jvm.ClassFile.FieldType.int)) ∈ md_Ts := mw_3 63 rfl rfl
theorem tw_544 : (Jvm.Cond.methodLink "TaskCores" (390 : Nat) ({ cls := "TaskCores$Task", name := "spend", desc := "(I)V" } : Jvm.MethodName)) ∈ md_Ts := mw_3 64 rfl rfl
theorem tw_545 : (Jvm.Cond.instanceMethod ({ cls := "TaskCores$Task", name := "spend", desc := "(I)V" } : Jvm.MethodName)) ∈ md_Ts := mw_3 65 rfl rfl
theorem tw_546 : (Jvm.Cond.selects "TaskCores$Task" ({ cls := "TaskCores$Task", name := "spend", desc := "(I)V" } : Jvm.MethodName) ({ cls := "TaskCores$Task", name := "spend", desc := "(I)V" } : Jvm.MethodName)) ∈ md_Ts := mw_3 66 rfl rfl
theorem tw_547 : (Jvm.Cond.code ({ cls := "TaskCores$Task", name := "spend", desc := "(I)V" } : Jvm.MethodName) prog_9_method_7_code (2 : Nat) (Option.none : Option Jvm.ClassFile.FieldType)) ∈ md_Ts := mw_3 67 rfl rfl
theorem tw_548 : (Jvm.Cond.methodLink "TaskCores" (396 : Nat) ({ cls := "TaskCores$Core", name := "noteWho", desc := "(II)V" } : Jvm.MethodName)) ∈ md_Ts := mw_3 68 rfl rfl
theorem tw_549 : (Jvm.Cond.instanceMethod ({ cls := "TaskCores$Core", name := "noteWho", desc := "(II)V" } : Jvm.MethodName)) ∈ md_Ts := mw_3 69 rfl rfl
theorem tw_550 : (Jvm.Cond.selects "TaskCores$Core" ({ cls := "TaskCores$Core", name := "noteWho", desc := "(II)V" } : Jvm.MethodName) ({ cls := "TaskCores$Core", name := "noteWho", desc := "(II)V" } : Jvm.MethodName)) ∈ md_Ts := mw_3 70 rfl rfl
theorem tw_551 : (Jvm.Cond.code ({ cls := "TaskCores$Core", name := "noteWho", desc := "(II)V" } : Jvm.MethodName) prog_2_method_3_code (3 : Nat) (Option.none : Option Jvm.ClassFile.FieldType)) ∈ md_Ts := mw_3 71 rfl rfl
theorem tw_552 : (Jvm.Cond.methodLink "TaskCores$Core" (40 : Nat) ({ cls := "TaskCores$Log", name := "add", desc := "(III)V" } : Jvm.MethodName)) ∈ md_Ts := mw_3 72 rfl rfl
theorem tw_553 : (Jvm.Cond.methodLink "TaskCores" (399 : Nat) ({ cls := "TaskCores$Interrupts", name := "serve", desc := "(LTaskCores$Interrupt;I)V" } : Jvm.MethodName)) ∈ md_Ts := mw_3 73 rfl rfl
theorem tw_554 : (Jvm.Cond.instanceMethod ({ cls := "TaskCores$Interrupts", name := "serve", desc := "(LTaskCores$Interrupt;I)V" } : Jvm.MethodName)) ∈ md_Ts := mw_3 74 rfl rfl
theorem tw_555 : (Jvm.Cond.selects "TaskCores$Interrupts" ({ cls := "TaskCores$Interrupts", name := "serve", desc := "(LTaskCores$Interrupt;I)V" } : Jvm.MethodName) ({ cls := "TaskCores$Interrupts", name := "serve", desc := "(LTaskCores$Interrupt;I)V" } : Jvm.MethodName)) ∈ md_Ts := mw_3 75 rfl rfl
theorem tw_556 : (Jvm.Cond.code ({ cls := "TaskCores$Interrupts", name := "serve", desc := "(LTaskCores$Interrupt;I)V" } : Jvm.MethodName) prog_4_method_5_code (4 : Nat) (Option.none : Option Jvm.ClassFile.FieldType)) ∈ md_Ts := mw_3 76 rfl rfl
theorem tw_557 : (Jvm.Cond.arrayClass Jvm.ClassFile.FieldType.long) ∈ md_Ts := mw_3 77 rfl rfl
theorem tw_558 : (Jvm.Cond.methodLink "TaskCoresLaw" (53 : Nat) ({ cls := "TaskCores", name := "now", desc := "()J" } : Jvm.MethodName)) ∈ md_Ts := mw_3 78 rfl rfl
theorem tw_559 : (Jvm.Cond.instanceMethod ({ cls := "TaskCores", name := "now", desc := "()J" } : Jvm.MethodName)) ∈ md_Ts := mw_3 79 rfl rfl
theorem tw_560 : (Jvm.Cond.selects "TaskCores" ({ cls := "TaskCores", name := "now", desc := "()J" } : Jvm.MethodName) ({ cls := "TaskCores", name := "now", desc := "()J" } : Jvm.MethodName)) ∈ md_Ts := mw_3 80 rfl rfl
theorem tw_561 : (Jvm.Cond.code ({ cls := "TaskCores", name := "now", desc := "()J" } : Jvm.MethodName) prog_1_method_8_code (1 : Nat) (Option.some Jvm.ClassFile.FieldType.long)) ∈ md_Ts := mw_3 81 rfl rfl
theorem tw_562 : (Jvm.Cond.methodLink "TaskCoresLaw" (58 : Nat) ({ cls := "TaskCores", name := "running", desc := "(IJ)I" } : Jvm.MethodName)) ∈ md_Ts := mw_3 82 rfl rfl
theorem tw_563 : (Jvm.Cond.instanceMethod ({ cls := "TaskCores", name := "running", desc := "(IJ)I" } : Jvm.MethodName)) ∈ md_Ts := mw_3 83 rfl rfl
theorem tw_564 : (Jvm.Cond.selects "TaskCores" ({ cls := "TaskCores", name := "running", desc := "(IJ)I" } : Jvm.MethodName) ({ cls := "TaskCores", name := "running", desc := "(IJ)I" } : Jvm.MethodName)) ∈ md_Ts := mw_3 84 rfl rfl
theorem tw_565 : (Jvm.Cond.code ({ cls := "TaskCores", name := "running", desc := "(IJ)I" } : Jvm.MethodName) prog_1_method_9_code (5 : Nat) (Option.some Jvm.ClassFile.FieldType.int)) ∈ md_Ts := mw_3 85 rfl rfl
theorem tw_566 : (Jvm.Cond.methodLink "TaskCores" (164 : Nat) ({ cls := "TaskCores$Core", name := "whoAt", desc := "(I)I" } : Jvm.MethodName)) ∈ md_Ts := mw_3 86 rfl rfl
theorem tw_567 : (Jvm.Cond.instanceMethod ({ cls := "TaskCores$Core", name := "whoAt", desc := "(I)I" } : Jvm.MethodName)) ∈ md_Ts := mw_3 87 rfl rfl
theorem tw_568 : (Jvm.Cond.selects "TaskCores$Core" ({ cls := "TaskCores$Core", name := "whoAt", desc := "(I)I" } : Jvm.MethodName) ({ cls := "TaskCores$Core", name := "whoAt", desc := "(I)I" } : Jvm.MethodName)) ∈ md_Ts := mw_3 88 rfl rfl
theorem tw_569 : (Jvm.Cond.code ({ cls := "TaskCores$Core", name := "whoAt", desc := "(I)I" } : Jvm.MethodName) prog_2_method_4_code (6 : Nat) (Option.some Jvm.ClassFile.FieldType.int)) ∈ md_Ts := mw_3 89 rfl rfl
theorem tw_570 : (Jvm.Cond.methodLink "TaskCores$Core" (47 : Nat) ({ cls := "TaskCores$Log", name := "answer", desc := "(II)I" } : Jvm.MethodName)) ∈ md_Ts := mw_3 90 rfl rfl
theorem tw_571 : (Jvm.Cond.instanceMethod ({ cls := "TaskCores$Log", name := "answer", desc := "(II)I" } : Jvm.MethodName)) ∈ md_Ts := mw_3 91 rfl rfl
theorem tw_572 : (Jvm.Cond.selects "TaskCores$Log" ({ cls := "TaskCores$Log", name := "answer", desc := "(II)I" } : Jvm.MethodName) ({ cls := "TaskCores$Log", name := "answer", desc := "(II)I" } : Jvm.MethodName)) ∈ md_Ts := mw_3 92 rfl rfl
theorem tw_573 : (Jvm.Cond.code ({ cls := "TaskCores$Log", name := "answer", desc := "(II)I" } : Jvm.MethodName) prog_6_method_3_code (4 : Nat) (Option.some Jvm.ClassFile.FieldType.int)) ∈ md_Ts := mw_3 93 rfl rfl
theorem tw_574 : (Jvm.Cond.constantLong "TaskCores$Log" (30 : Nat) (1048575 : Int64)) ∈ md_Ts := mw_3 94 rfl rfl
theorem tw_575 : (Jvm.Cond.methodLink "TaskCoresLaw" (62 : Nat) ({ cls := "TaskCores", name := "used", desc := "(I)J" } : Jvm.MethodName)) ∈ md_Ts := mw_3 95 rfl rfl
theorem tw_576 : (Jvm.Cond.instanceMethod ({ cls := "TaskCores", name := "used", desc := "(I)J" } : Jvm.MethodName)) ∈ md_Ts := mw_3 96 rfl rfl
theorem tw_577 : (Jvm.Cond.selects "TaskCores" ({ cls := "TaskCores", name := "used", desc := "(I)J" } : Jvm.MethodName) ({ cls := "TaskCores", name := "used", desc := "(I)J" } : Jvm.MethodName)) ∈ md_Ts := mw_3 97 rfl rfl
theorem tw_578 : (Jvm.Cond.code ({ cls := "TaskCores", name := "used", desc := "(I)J" } : Jvm.MethodName) prog_1_method_10_code (3 : Nat) (Option.some Jvm.ClassFile.FieldType.long)) ∈ md_Ts := mw_3 98 rfl rfl
theorem tw_579 : (Jvm.Cond.constantLong "TaskCores" (167 : Nat) (-1 : Int64)) ∈ md_Ts := mw_3 99 rfl rfl
theorem tw_580 : (Jvm.Cond.methodLink "TaskCoresLaw" (67 : Nat) ({ cls := "TaskCores", name := "state", desc := "(I)I" } : Jvm.MethodName)) ∈ md_Ts := mw_3 100 rfl rfl
theorem tw_581 : (Jvm.Cond.instanceMethod ({ cls := "TaskCores", name := "state", desc := "(I)I" } : Jvm.MethodName)) ∈ md_Ts := mw_3 101 rfl rfl
theorem tw_582 : (Jvm.Cond.selects "TaskCores" ({ cls := "TaskCores", name := "state", desc := "(I)I" } : Jvm.MethodName) ({ cls := "TaskCores", name := "state", desc := "(I)I" } : Jvm.MethodName)) ∈ md_Ts := mw_3 102 rfl rfl
theorem tw_583 : (Jvm.Cond.code ({ cls := "TaskCores", name := "state", desc := "(I)I" } : Jvm.MethodName) prog_1_method_11_code (3 : Nat) (Option.some Jvm.ClassFile.FieldType.int)) ∈ md_Ts := mw_3 103 rfl rfl
theorem tw_584 : (Jvm.Cond.methodLink "TaskCoresLaw" (72 : Nat) ({ cls := "TaskCores", name := "event", desc := "(II)I" } : Jvm.MethodName)) ∈ md_Ts := mw_3 104 rfl rfl
theorem tw_585 : (Jvm.Cond.instanceMethod ({ cls := "TaskCores", name := "event", desc := "(II)I" } : Jvm.MethodName)) ∈ md_Ts := mw_3 105 rfl rfl
theorem tw_586 : (Jvm.Cond.selects "TaskCores" ({ cls := "TaskCores", name := "event", desc := "(II)I" } : Jvm.MethodName) ({ cls := "TaskCores", name := "event", desc := "(II)I" } : Jvm.MethodName)) ∈ md_Ts := mw_3 106 rfl rfl
theorem tw_587 : (Jvm.Cond.code ({ cls := "TaskCores", name := "event", desc := "(II)I" } : Jvm.MethodName) prog_1_method_12_code (4 : Nat) (Option.some Jvm.ClassFile.FieldType.int)) ∈ md_Ts := mw_3 107 rfl rfl
theorem tw_588 : (Jvm.Cond.methodLink "TaskCoresLaw" (77 : Nat) ({ cls := "TaskCores", name := "events", desc := "(I)I" } : Jvm.MethodName)) ∈ md_Ts := mw_3 108 rfl rfl
theorem tw_589 : (Jvm.Cond.instanceMethod ({ cls := "TaskCores", name := "events", desc := "(I)I" } : Jvm.MethodName)) ∈ md_Ts := mw_3 109 rfl rfl
theorem tw_590 : (Jvm.Cond.selects "TaskCores" ({ cls := "TaskCores", name := "events", desc := "(I)I" } : Jvm.MethodName) ({ cls := "TaskCores", name := "events", desc := "(I)I" } : Jvm.MethodName)) ∈ md_Ts := mw_3 110 rfl rfl
theorem tw_591 : (Jvm.Cond.code ({ cls := "TaskCores", name := "events", desc := "(I)I" } : Jvm.MethodName) prog_1_method_13_code (3 : Nat) (Option.some Jvm.ClassFile.FieldType.int)) ∈ md_Ts := mw_3 111 rfl rfl
theorem tw_592 : (Jvm.Cond.methodLink "TaskCoresLaw" (81 : Nat) ({ cls := "TaskCores", name := "code", desc := "(II)I" } : Jvm.MethodName)) ∈ md_Ts := mw_3 112 rfl rfl
theorem tw_593 : (Jvm.Cond.instanceMethod ({ cls := "TaskCores", name := "code", desc := "(II)I" } : Jvm.MethodName)) ∈ md_Ts := mw_3 113 rfl rfl
theorem tw_594 : (Jvm.Cond.selects "TaskCores" ({ cls := "TaskCores", name := "code", desc := "(II)I" } : Jvm.MethodName) ({ cls := "TaskCores", name := "code", desc := "(II)I" } : Jvm.MethodName)) ∈ md_Ts := mw_3 114 rfl rfl
theorem tw_595 : (Jvm.Cond.code ({ cls := "TaskCores", name := "code", desc := "(II)I" } : Jvm.MethodName) prog_1_method_14_code (3 : Nat) (Option.some Jvm.ClassFile.FieldType.int)) ∈ md_Ts := mw_3 115 rfl rfl
theorem tw_596 : (Jvm.Cond.methodLink "TaskCores" (186 : Nat) ({ cls := "TaskCores$Log", name := "answer", desc := "(II)I" } : Jvm.MethodName)) ∈ md_Ts := mw_3 116 rfl rfl
theorem tw_597 : (Jvm.Cond.methodLink "TaskCoresLaw" (85 : Nat) ({ cls := "TaskCores", name := "order", desc := "(II)I" } : Jvm.MethodName)) ∈ md_Ts := mw_3 117 rfl rfl
theorem tw_598 : (Jvm.Cond.instanceMethod ({ cls := "TaskCores", name := "order", desc := "(II)I" } : Jvm.MethodName)) ∈ md_Ts := mw_3 118 rfl rfl
theorem tw_599 : (Jvm.Cond.selects "TaskCores" ({ cls := "TaskCores", name := "order", desc := "(II)I" } : Jvm.MethodName) ({ cls := "TaskCores", name := "order", desc := "(II)I" } : Jvm.MethodName)) ∈ md_Ts := mw_3 119 rfl rfl
theorem tw_600 : (Jvm.Cond.code ({ cls := "TaskCores", name := "order", desc := "(II)I" } : Jvm.MethodName) prog_1_method_15_code (3 : Nat) (Option.some Jvm.ClassFile.FieldType.int)) ∈ md_Ts := mw_3 120 rfl rfl
theorem tw_601 : (Jvm.Cond.methodLink "TaskCoresLaw" (89 : Nat) ({ cls := "TaskCores", name := "spin", desc := "(II)I" } : Jvm.MethodName)) ∈ md_Ts := mw_3 121 rfl rfl
theorem tw_602 : (Jvm.Cond.instanceMethod ({ cls := "TaskCores", name := "spin", desc := "(II)I" } : Jvm.MethodName)) ∈ md_Ts := mw_3 122 rfl rfl
theorem tw_603 : (Jvm.Cond.selects "TaskCores" ({ cls := "TaskCores", name := "spin", desc := "(II)I" } : Jvm.MethodName) ({ cls := "TaskCores", name := "spin", desc := "(II)I" } : Jvm.MethodName)) ∈ md_Ts := mw_3 123 rfl rfl
theorem tw_604 : (Jvm.Cond.code ({ cls := "TaskCores", name := "spin", desc := "(II)I" } : Jvm.MethodName) prog_1_method_16_code (6 : Nat) (Option.some Jvm.ClassFile.FieldType.int)) ∈ md_Ts := mw_3 124 rfl rfl
theorem tw_605 : (Jvm.Cond.methodLink "TaskCores" (204 : Nat) ({ cls := "TaskCores$Lock", name := "firstInQueueOf", desc := "(LTaskCores$Core;)LTaskCores$Task;" } : Jvm.MethodName)) ∈ md_Ts := mw_3 125 rfl rfl
theorem tw_606 : (Jvm.Cond.instanceMethod ({ cls := "TaskCores$Lock", name := "firstInQueueOf", desc := "(LTaskCores$Core;)LTaskCores$Task;" } : Jvm.MethodName)) ∈ md_Ts := mw_3 126 rfl rfl
theorem tw_607 : (Jvm.Cond.selects "TaskCores$Lock" ({ cls := "TaskCores$Lock", name := "firstInQueueOf", desc := "(LTaskCores$Core;)LTaskCores$Task;" } : Jvm.MethodName) ({ cls := "TaskCores$Lock", name := "firstInQueueOf", desc := "(LTaskCores$Core;)LTaskCores$Task;" } : Jvm.MethodName)) ∈ md_Ts := mw_3 127 rfl rfl
theorem tw_608 : (Jvm.Cond.code ({ cls := "TaskCores$Lock", name := "firstInQueueOf", desc := "(LTaskCores$Core;)LTaskCores$Task;" } : Jvm.MethodName) prog_5_method_3_code (3 : Nat) (Option.some (Jvm.ClassFile.FieldType.object "TaskCores$Task"))) ∈ md_Ts := mw_3 128 rfl rfl
theorem tw_609 : (Jvm.Cond.methodLink "TaskCoresLaw" (93 : Nat) ({ cls := "TaskCores", name := "holder", desc := "(I)I" } : Jvm.MethodName)) ∈ md_Ts := mw_3 129 rfl rfl
theorem tw_610 : (Jvm.Cond.instanceMethod ({ cls := "TaskCores", name := "holder", desc := "(I)I" } : Jvm.MethodName)) ∈ md_Ts := mw_3 130 rfl rfl
theorem tw_611 : (Jvm.Cond.selects "TaskCores" ({ cls := "TaskCores", name := "holder", desc := "(I)I" } : Jvm.MethodName) ({ cls := "TaskCores", name := "holder", desc := "(I)I" } : Jvm.MethodName)) ∈ md_Ts := mw_3 131 rfl rfl
theorem tw_612 : (Jvm.Cond.code ({ cls := "TaskCores", name := "holder", desc := "(I)I" } : Jvm.MethodName) prog_1_method_17_code (3 : Nat) (Option.some Jvm.ClassFile.FieldType.int)) ∈ md_Ts := mw_3 132 rfl rfl
theorem tw_613 : (Jvm.Cond.methodLink "TaskCoresLaw" (9 : Nat) ({ cls := "TaskCoresLaw", name := "cell", desc := "([II)I" } : Jvm.MethodName)) ∈ md_Ts := mw_3 133 rfl rfl
theorem tw_614 : (Jvm.Cond.static ({ cls := "TaskCoresLaw", name := "cell", desc := "([II)I" } : Jvm.MethodName)) ∈ md_Ts := mw_3 134 rfl rfl
theorem tw_615 : (Jvm.Cond.code ({ cls := "TaskCoresLaw", name := "cell", desc := "([II)I" } : Jvm.MethodName) method_2_code (2 : Nat) (Option.some Jvm.ClassFile.FieldType.int)) ∈ md_Ts := mw_3 135 rfl rfl
theorem tw_616 : (Jvm.Cond.classLink "TaskCoresLaw" (18 : Nat) "TaskCoresModel") ∈ md_Ts := mw_3 136 rfl rfl
theorem tw_617 : (Jvm.Cond.instantiable "TaskCoresModel" (45 : Nat)) ∈ md_Ts := mw_3 137 rfl rfl
theorem tw_618 : (Jvm.Cond.methodLink "TaskCoresLaw" (20 : Nat) ({ cls := "TaskCoresModel", name := "<init>", desc := "(I)V" } : Jvm.MethodName)) ∈ md_Ts := mw_3 138 rfl rfl
theorem tw_619 : (Jvm.Cond.instanceMethod ({ cls := "TaskCoresModel", name := "<init>", desc := "(I)V" } : Jvm.MethodName)) ∈ md_Ts := mw_3 139 rfl rfl
theorem tw_620 : (Jvm.Cond.code ({ cls := "TaskCoresModel", name := "<init>", desc := "(I)V" } : Jvm.MethodName) prog_12_method_1_code (2 : Nat) (Option.none : Option Jvm.ClassFile.FieldType)) ∈ md_Ts := mw_3 140 rfl rfl
theorem tw_621 : (Jvm.Cond.methodLink "TaskCoresModel" (1 : Nat) ({ cls := "java/lang/Object", name := "<init>", desc := "()V" } : Jvm.MethodName)) ∈ md_Ts := mw_3 141 rfl rfl
theorem tw_622 : (Jvm.Cond.constant "TaskCoresModel" (108 : Nat) (400000 : Int32)) ∈ md_Ts := mw_3 142 rfl rfl
theorem tw_623 : (Jvm.Cond.fieldLink "TaskCoresModel" (113 : Nat) "TaskCoresModel" "cores" "I") ∈ md_Ts := mw_3 143 rfl rfl
theorem tw_624 : (Jvm.Cond.fieldLink "TaskCoresModel" (117 : Nat) "TaskCoresModel" "tasks" "I") ∈ md_Ts := mw_3 144 rfl rfl
theorem tw_625 : (Jvm.Cond.fieldLink "TaskCoresModel" (7 : Nat) "TaskCoresModel" "rank" "[I") ∈ md_Ts := mw_3 145 rfl rfl
theorem tw_626 : (Jvm.Cond.fieldLink "TaskCoresModel" (13 : Nat) "TaskCoresModel" "core" "[I") ∈ md_Ts := mw_3 146 rfl rfl
theorem tw_627 : (Jvm.Cond.fieldLink "TaskCoresModel" (16 : Nat) "TaskCoresModel" "bound" "[I") ∈ md_Ts := mw_3 147 rfl rfl
theorem tw_628 : (Jvm.Cond.fieldLink "TaskCoresModel" (19 : Nat) "TaskCoresModel" "extended" "[Z") ∈ md_Ts := mw_3 148 rfl rfl
theorem tw_629 : (Jvm.Cond.fieldLink "TaskCoresModel" (23 : Nat) "TaskCoresModel" "full" "[Z") ∈ md_Ts := mw_3 149 rfl rfl
theorem tw_630 : (Jvm.Cond.fieldLink "TaskCoresModel" (148 : Nat) "TaskCoresModel" "parts" "I") ∈ md_Ts := mw_3 150 rfl rfl
theorem tw_631 : (Jvm.Cond.fieldLink "TaskCoresModel" (26 : Nat) "TaskCoresModel" "partOf" "[I") ∈ md_Ts := mw_3 151 rfl rfl
theorem tw_632 : (Jvm.Cond.fieldLink "TaskCoresModel" (29 : Nat) "TaskCoresModel" "partKind" "[I") ∈ md_Ts := mw_3 152 rfl rfl
theorem tw_633 : (Jvm.Cond.fieldLink "TaskCoresModel" (32 : Nat) "TaskCoresModel" "partV" "[J") ∈ md_Ts := mw_3 153 rfl rfl
theorem tw_634 : (Jvm.Cond.fieldLink "TaskCoresModel" (36 : Nat) "TaskCoresModel" "state" "[I") ∈ md_Ts := mw_3 154 rfl rfl
theorem tw_635 : (Jvm.Cond.fieldLink "TaskCoresModel" (39 : Nat) "TaskCoresModel" "turn" "[J") ∈ md_Ts := mw_3 155 rfl rfl
theorem tw_636 : (Jvm.Cond.fieldLink "TaskCoresModel" (42 : Nat) "TaskCoresModel" "wanted" "[I") ∈ md_Ts := mw_3 156 rfl rfl
theorem tw_637 : (Jvm.Cond.fieldLink "TaskCoresModel" (45 : Nat) "TaskCoresModel" "next" "[I") ∈ md_Ts := mw_3 157 rfl rfl
theorem tw_638 : (Jvm.Cond.fieldLink "TaskCoresModel" (48 : Nat) "TaskCoresModel" "left" "[J") ∈ md_Ts := mw_3 158 rfl rfl
theorem tw_639 : (Jvm.Cond.fieldLink "TaskCoresModel" (51 : Nat) "TaskCoresModel" "starts" "[Z") ∈ md_Ts := mw_3 159 rfl rfl
theorem tw_640 : (Jvm.Cond.fieldLink "TaskCoresModel" (54 : Nat) "TaskCoresModel" "events" "[I") ∈ md_Ts := mw_3 160 rfl rfl
theorem tw_641 : (Jvm.Cond.fieldLink "TaskCoresModel" (57 : Nat) "TaskCoresModel" "awaited" "[I") ∈ md_Ts := mw_3 161 rfl rfl
theorem tw_642 : (Jvm.Cond.fieldLink "TaskCoresModel" (60 : Nat) "TaskCoresModel" "yields" "[Z") ∈ md_Ts := mw_3 162 rfl rfl
theorem tw_643 : (Jvm.Cond.fieldLink "TaskCoresModel" (63 : Nat) "TaskCoresModel" "used" "[J") ∈ md_Ts := mw_3 163 rfl rfl
theorem tw_644 : (Jvm.Cond.fieldLink "TaskCoresModel" (162 : Nat) "TaskCoresModel" "turns" "J") ∈ md_Ts := mw_3 164 rfl rfl
theorem tw_645 : (Jvm.Cond.fieldLink "TaskCoresModel" (66 : Nat) "TaskCoresModel" "holder" "[I") ∈ md_Ts := mw_3 165 rfl rfl
theorem tw_646 : (Jvm.Cond.fieldLink "TaskCoresModel" (69 : Nat) "TaskCoresModel" "gotAt" "[J") ∈ md_Ts := mw_3 166 rfl rfl
theorem tw_647 : (Jvm.Cond.fieldLink "TaskCoresModel" (72 : Nat) "TaskCoresModel" "ceiling" "[I") ∈ md_Ts := mw_3 167 rfl rfl
theorem tw_648 : (Jvm.Cond.fieldLink "TaskCoresModel" (75 : Nat) "TaskCoresModel" "owner" "[I") ∈ md_Ts := mw_3 168 rfl rfl
theorem tw_649 : (Jvm.Cond.fieldLink "TaskCoresModel" (78 : Nat) "TaskCoresModel" "spins" "[I") ∈ md_Ts := mw_3 169 rfl rfl
theorem tw_650 : (Jvm.Cond.fieldLink "TaskCoresModel" (81 : Nat) "TaskCoresModel" "spinsSince" "[J") ∈ md_Ts := mw_3 170 rfl rfl
theorem tw_651 : (Jvm.Cond.fieldLink "TaskCoresModel" (194 : Nat) "TaskCoresModel" "orders" "J") ∈ md_Ts := mw_3 171 rfl rfl
theorem tw_652 : (Jvm.Cond.fieldLink "TaskCoresModel" (176 : Nat) "TaskCoresModel" "offBy" "I") ∈ md_Ts := mw_3 172 rfl rfl
theorem tw_653 : (Jvm.Cond.fieldLink "TaskCoresModel" (202 : Nat) "TaskCoresModel" "offEnd" "J") ∈ md_Ts := mw_3 173 rfl rfl
theorem tw_654 : (Jvm.Cond.fieldLink "TaskCoresModel" (205 : Nat) "TaskCoresModel" "offTold" "Z") ∈ md_Ts := mw_3 174 rfl rfl
theorem tw_655 : (Jvm.Cond.fieldLink "TaskCoresModel" (151 : Nat) "TaskCoresModel" "alarms" "I") ∈ md_Ts := mw_3 175 rfl rfl
theorem tw_656 : (Jvm.Cond.fieldLink "TaskCoresModel" (84 : Nat) "TaskCoresModel" "alarmTask" "[I") ∈ md_Ts := mw_3 176 rfl rfl
theorem tw_657 : (Jvm.Cond.fieldLink "TaskCoresModel" (87 : Nat) "TaskCoresModel" "alarmAt" "[J") ∈ md_Ts := mw_3 177 rfl rfl
theorem tw_658 : (Jvm.Cond.fieldLink "TaskCoresModel" (156 : Nat) "TaskCoresModel" "interrupts" "I") ∈ md_Ts := mw_3 178 rfl rfl
theorem tw_659 : (Jvm.Cond.fieldLink "TaskCoresModel" (90 : Nat) "TaskCoresModel" "level" "[I") ∈ md_Ts := mw_3 179 rfl rfl
theorem tw_660 : (Jvm.Cond.fieldLink "TaskCoresModel" (93 : Nat) "TaskCoresModel" "comes" "[J") ∈ md_Ts := mw_3 180 rfl rfl
theorem tw_661 : (Jvm.Cond.fieldLink "TaskCoresModel" (96 : Nat) "TaskCoresModel" "rest" "[J") ∈ md_Ts := mw_3 181 rfl rfl
theorem tw_662 : (Jvm.Cond.fieldLink "TaskCoresModel" (159 : Nat) "TaskCoresModel" "codes" "I") ∈ md_Ts := mw_3 182 rfl rfl
theorem tw_663 : (Jvm.Cond.fieldLink "TaskCoresModel" (99 : Nat) "TaskCoresModel" "codeKind" "[I") ∈ md_Ts := mw_3 183 rfl rfl
theorem tw_664 : (Jvm.Cond.fieldLink "TaskCoresModel" (102 : Nat) "TaskCoresModel" "codeTask" "[I") ∈ md_Ts := mw_3 184 rfl rfl
theorem tw_665 : (Jvm.Cond.fieldLink "TaskCoresModel" (105 : Nat) "TaskCoresModel" "codeAt" "[J") ∈ md_Ts := mw_3 185 rfl rfl
theorem tw_666 : (Jvm.Cond.fieldLink "TaskCoresModel" (120 : Nat) "TaskCoresModel" "now" "J") ∈ md_Ts := mw_3 186 rfl rfl
theorem tw_667 : (Jvm.Cond.fieldLink "TaskCoresModel" (109 : Nat) "TaskCoresModel" "who" "[S") ∈ md_Ts := mw_3 187 rfl rfl
theorem tw_759 : (Jvm.Cond.arrayClass Jvm.ClassFile.FieldType.int) ∈ md_Ts := mw_4 39 rfl rfl
theorem tw_760 : (Jvm.Cond.arrayClass Jvm.ClassFile.FieldType.boolean) ∈ md_Ts := mw_4 40 rfl rfl
theorem tw_761 : (Jvm.Cond.arrayClass Jvm.ClassFile.FieldType.short) ∈ md_Ts := mw_4 41 rfl rfl
theorem tw_762 : (Jvm.Cond.methodLink "TaskCoresLaw" (25 : Nat) ({ cls := "TaskCoresModel", name := "task", desc := "(IIIZ)I" } : Jvm.MethodName)) ∈ md_Ts := mw_4 42 rfl rfl
theorem tw_763 : (Jvm.Cond.instanceMethod ({ cls := "TaskCoresModel", name := "task", desc := "(IIIZ)I" } : Jvm.MethodName)) ∈ md_Ts := mw_4 43 rfl rfl
theorem tw_764 : (Jvm.Cond.selects "TaskCoresModel" ({ cls := "TaskCoresModel", name := "task", desc := "(IIIZ)I" } : Jvm.MethodName) ({ cls := "TaskCoresModel", name := "task", desc := "(IIIZ)I" } : Jvm.MethodName)) ∈ md_Ts := mw_4 44 rfl rfl
theorem tw_765 : (Jvm.Cond.code ({ cls := "TaskCoresModel", name := "task", desc := "(IIIZ)I" } : Jvm.MethodName) prog_12_method_3_code (5 : Nat) (Option.some Jvm.ClassFile.FieldType.int)) ∈ md_Ts := mw_4 45 rfl rfl
theorem tw_766 : (Jvm.Cond.methodLink "TaskCoresLaw" (32 : Nat) ({ cls := "TaskCoresModel", name := "part", desc := "(IIJ)I" } : Jvm.MethodName)) ∈ md_Ts := mw_4 46 rfl rfl
theorem tw_767 : (Jvm.Cond.instanceMethod ({ cls := "TaskCoresModel", name := "part", desc := "(IIJ)I" } : Jvm.MethodName)) ∈ md_Ts := mw_4 47 rfl rfl
theorem tw_768 : (Jvm.Cond.selects "TaskCoresModel" ({ cls := "TaskCoresModel", name := "part", desc := "(IIJ)I" } : Jvm.MethodName) ({ cls := "TaskCoresModel", name := "part", desc := "(IIJ)I" } : Jvm.MethodName)) ∈ md_Ts := mw_4 48 rfl rfl
theorem tw_769 : (Jvm.Cond.code ({ cls := "TaskCoresModel", name := "part", desc := "(IIJ)I" } : Jvm.MethodName) prog_12_method_5_code (7 : Nat) (Option.some Jvm.ClassFile.FieldType.int)) ∈ md_Ts := mw_4 49 rfl rfl
theorem tw_770 : (Jvm.Cond.methodLink "TaskCoresModel" (140 : Nat) ({ cls := "TaskCoresModel", name := "no", desc := "(I)Z" } : Jvm.MethodName)) ∈ md_Ts := mw_4 50 rfl rfl
theorem tw_772 : (Jvm.Cond.instanceMethod ({ cls := "TaskCoresModel", name := "no", desc := "(I)Z" } : Jvm.MethodName)) ∈ md_Ts := mw_4 52 rfl rfl
theorem tw_773 : (Jvm.Cond.code ({ cls := "TaskCoresModel", name := "no", desc := "(I)Z" } : Jvm.MethodName) prog_12_method_2_code (2 : Nat) (Option.some Jvm.ClassFile.FieldType.boolean)) ∈ md_Ts := mw_4 53 rfl rfl
theorem tw_774 : (Jvm.Cond.methodLink "TaskCoresModel" (144 : Nat) ({ cls := "TaskCoresModel", name := "good", desc := "(IJ)Z" } : Jvm.MethodName)) ∈ md_Ts := mw_4 54 rfl rfl
theorem tw_775 : (Jvm.Cond.static ({ cls := "TaskCoresModel", name := "good", desc := "(IJ)Z" } : Jvm.MethodName)) ∈ md_Ts := mw_4 55 rfl rfl
theorem tw_776 : (Jvm.Cond.code ({ cls := "TaskCoresModel", name := "good", desc := "(IJ)Z" } : Jvm.MethodName) prog_12_method_4_code (3 : Nat) (Option.some Jvm.ClassFile.FieldType.boolean)) ∈ md_Ts := mw_4 56 rfl rfl
theorem tw_777 : (Jvm.Cond.constantLong "TaskCoresModel" (124 : Nat) (50000 : Int64)) ∈ md_Ts := mw_4 57 rfl rfl
theorem tw_778 : (Jvm.Cond.constantLong "TaskCoresModel" (126 : Nat) (100 : Int64)) ∈ md_Ts := mw_4 58 rfl rfl
theorem tw_779 : (Jvm.Cond.constantLong "TaskCoresModel" (128 : Nat) (65535 : Int64)) ∈ md_Ts := mw_4 59 rfl rfl
theorem tw_780 : (Jvm.Cond.constantLong "TaskCoresModel" (130 : Nat) (65537 : Int64)) ∈ md_Ts := mw_4 60 rfl rfl
theorem tw_781 : (Jvm.Cond.constantLong "TaskCoresModel" (132 : Nat) (6619135 : Int64)) ∈ md_Ts := mw_4 61 rfl rfl
theorem tw_782 : (Jvm.Cond.constantLong "TaskCoresModel" (134 : Nat) (65536 : Int64)) ∈ md_Ts := mw_4 62 rfl rfl
theorem tw_783 : (Jvm.Cond.constantLong "TaskCoresModel" (136 : Nat) (32 : Int64)) ∈ md_Ts := mw_4 63 rfl rfl
theorem tw_784 : (Jvm.Cond.constantLong "TaskCoresModel" (138 : Nat) (16 : Int64)) ∈ md_Ts := mw_4 64 rfl rfl
theorem tw_785 : (Jvm.Cond.methodLink "TaskCoresLaw" (37 : Nat) ({ cls := "TaskCoresModel", name := "manner", desc := "(IZ)I" } : Jvm.MethodName)) ∈ md_Ts := mw_4 65 rfl rfl
theorem tw_786 : (Jvm.Cond.instanceMethod ({ cls := "TaskCoresModel", name := "manner", desc := "(IZ)I" } : Jvm.MethodName)) ∈ md_Ts := mw_4 66 rfl rfl
theorem tw_787 : (Jvm.Cond.selects "TaskCoresModel" ({ cls := "TaskCoresModel", name := "manner", desc := "(IZ)I" } : Jvm.MethodName) ({ cls := "TaskCoresModel", name := "manner", desc := "(IZ)I" } : Jvm.MethodName)) ∈ md_Ts := mw_4 67 rfl rfl
theorem tw_788 : (Jvm.Cond.code ({ cls := "TaskCoresModel", name := "manner", desc := "(IZ)I" } : Jvm.MethodName) prog_12_method_6_code (3 : Nat) (Option.some Jvm.ClassFile.FieldType.int)) ∈ md_Ts := mw_4 68 rfl rfl
theorem tw_789 : (Jvm.Cond.methodLink "TaskCoresLaw" (42 : Nat) ({ cls := "TaskCoresModel", name := "activate", desc := "(IJ)I" } : Jvm.MethodName)) ∈ md_Ts := mw_4 69 rfl rfl
theorem tw_790 : (Jvm.Cond.instanceMethod ({ cls := "TaskCoresModel", name := "activate", desc := "(IJ)I" } : Jvm.MethodName)) ∈ md_Ts := mw_4 70 rfl rfl
theorem tw_791 : (Jvm.Cond.selects "TaskCoresModel" ({ cls := "TaskCoresModel", name := "activate", desc := "(IJ)I" } : Jvm.MethodName) ({ cls := "TaskCoresModel", name := "activate", desc := "(IJ)I" } : Jvm.MethodName)) ∈ md_Ts := mw_4 71 rfl rfl
theorem tw_792 : (Jvm.Cond.code ({ cls := "TaskCoresModel", name := "activate", desc := "(IJ)I" } : Jvm.MethodName) prog_12_method_7_code (4 : Nat) (Option.some Jvm.ClassFile.FieldType.int)) ∈ md_Ts := mw_4 72 rfl rfl
theorem tw_793 : (Jvm.Cond.methodLink "TaskCoresLaw" (47 : Nat) ({ cls := "TaskCoresModel", name := "interrupt", desc := "(IJJ)I" } : Jvm.MethodName)) ∈ md_Ts := mw_4 73 rfl rfl
theorem tw_794 : (Jvm.Cond.instanceMethod ({ cls := "TaskCoresModel", name := "interrupt", desc := "(IJJ)I" } : Jvm.MethodName)) ∈ md_Ts := mw_4 74 rfl rfl
theorem tw_795 : (Jvm.Cond.selects "TaskCoresModel" ({ cls := "TaskCoresModel", name := "interrupt", desc := "(IJJ)I" } : Jvm.MethodName) ({ cls := "TaskCoresModel", name := "interrupt", desc := "(IJJ)I" } : Jvm.MethodName)) ∈ md_Ts := mw_4 75 rfl rfl
theorem tw_796 : (Jvm.Cond.code ({ cls := "TaskCoresModel", name := "interrupt", desc := "(IJJ)I" } : Jvm.MethodName) prog_12_method_8_code (6 : Nat) (Option.some Jvm.ClassFile.FieldType.int)) ∈ md_Ts := mw_4 76 rfl rfl
theorem tw_797 : (Jvm.Cond.constantLong "TaskCoresModel" (154 : Nat) (10000 : Int64)) ∈ md_Ts := mw_4 77 rfl rfl
theorem tw_798 : (Jvm.Cond.methodLink "TaskCoresLaw" (52 : Nat) ({ cls := "TaskCoresModel", name := "run", desc := "(J)I" } : Jvm.MethodName)) ∈ md_Ts := mw_4 78 rfl rfl
theorem tw_799 : (Jvm.Cond.instanceMethod ({ cls := "TaskCoresModel", name := "run", desc := "(J)I" } : Jvm.MethodName)) ∈ md_Ts := mw_4 79 rfl rfl
theorem tw_800 : (Jvm.Cond.selects "TaskCoresModel" ({ cls := "TaskCoresModel", name := "run", desc := "(J)I" } : Jvm.MethodName) ({ cls := "TaskCoresModel", name := "run", desc := "(J)I" } : Jvm.MethodName)) ∈ md_Ts := mw_4 80 rfl rfl
theorem tw_801 : (Jvm.Cond.code ({ cls := "TaskCoresModel", name := "run", desc := "(J)I" } : Jvm.MethodName) prog_12_method_28_code (6 : Nat) (Option.some Jvm.ClassFile.FieldType.int)) ∈ md_Ts := mw_4 81 rfl rfl
theorem tw_802 : (Jvm.Cond.methodLink "TaskCoresModel" (239 : Nat) ({ cls := "TaskCoresModel", name := "findCeilings", desc := "()V" } : Jvm.MethodName)) ∈ md_Ts := mw_4 82 rfl rfl
theorem tw_804 : (Jvm.Cond.instanceMethod ({ cls := "TaskCoresModel", name := "findCeilings", desc := "()V" } : Jvm.MethodName)) ∈ md_Ts := mw_4 84 rfl rfl
theorem tw_805 : (Jvm.Cond.code ({ cls := "TaskCoresModel", name := "findCeilings", desc := "()V" } : Jvm.MethodName) prog_12_method_21_code (3 : Nat) (Option.none : Option Jvm.ClassFile.FieldType)) ∈ md_Ts := mw_4 85 rfl rfl
theorem tw_806 : (Jvm.Cond.methodLink "TaskCoresModel" (242 : Nat) ({ cls := "TaskCoresModel", name := "microsecond", desc := "()I" } : Jvm.MethodName)) ∈ md_Ts := mw_4 86 rfl rfl
theorem tw_808 : (Jvm.Cond.instanceMethod ({ cls := "TaskCoresModel", name := "microsecond", desc := "()I" } : Jvm.MethodName)) ∈ md_Ts := mw_4 88 rfl rfl
theorem tw_809 : (Jvm.Cond.code ({ cls := "TaskCoresModel", name := "microsecond", desc := "()I" } : Jvm.MethodName) prog_12_method_27_code (8 : Nat) (Option.some Jvm.ClassFile.FieldType.int)) ∈ md_Ts := mw_4 89 rfl rfl
theorem tw_810 : (Jvm.Cond.methodLink "TaskCoresModel" (185 : Nat) ({ cls := "TaskCoresModel", name := "begin", desc := "(I)V" } : Jvm.MethodName)) ∈ md_Ts := mw_4 90 rfl rfl
theorem tw_812 : (Jvm.Cond.instanceMethod ({ cls := "TaskCoresModel", name := "begin", desc := "(I)V" } : Jvm.MethodName)) ∈ md_Ts := mw_4 92 rfl rfl
theorem tw_813 : (Jvm.Cond.code ({ cls := "TaskCoresModel", name := "begin", desc := "(I)V" } : Jvm.MethodName) prog_12_method_11_code (2 : Nat) (Option.none : Option Jvm.ClassFile.FieldType)) ∈ md_Ts := mw_4 93 rfl rfl
theorem tw_814 : (Jvm.Cond.methodLink "TaskCoresModel" (165 : Nat) ({ cls := "TaskCoresModel", name := "tell", desc := "(II)V" } : Jvm.MethodName)) ∈ md_Ts := mw_4 94 rfl rfl
theorem tw_816 : (Jvm.Cond.instanceMethod ({ cls := "TaskCoresModel", name := "tell", desc := "(II)V" } : Jvm.MethodName)) ∈ md_Ts := mw_4 96 rfl rfl
theorem tw_817 : (Jvm.Cond.code ({ cls := "TaskCoresModel", name := "tell", desc := "(II)V" } : Jvm.MethodName) prog_12_method_9_code (3 : Nat) (Option.none : Option Jvm.ClassFile.FieldType)) ∈ md_Ts := mw_4 97 rfl rfl
theorem tw_818 : (Jvm.Cond.methodLink "TaskCoresModel" (169 : Nat) ({ cls := "TaskCoresModel", name := "ready", desc := "(I)V" } : Jvm.MethodName)) ∈ md_Ts := mw_4 98 rfl rfl
theorem tw_820 : (Jvm.Cond.instanceMethod ({ cls := "TaskCoresModel", name := "ready", desc := "(I)V" } : Jvm.MethodName)) ∈ md_Ts := mw_4 100 rfl rfl
theorem tw_821 : (Jvm.Cond.code ({ cls := "TaskCoresModel", name := "ready", desc := "(I)V" } : Jvm.MethodName) prog_12_method_10_code (2 : Nat) (Option.none : Option Jvm.ClassFile.FieldType)) ∈ md_Ts := mw_4 101 rfl rfl
theorem tw_822 : (Jvm.Cond.methodLink "TaskCoresModel" (232 : Nat) ({ cls := "TaskCoresModel", name := "step", desc := "(I)Z" } : Jvm.MethodName)) ∈ md_Ts := mw_4 102 rfl rfl
theorem tw_824 : (Jvm.Cond.instanceMethod ({ cls := "TaskCoresModel", name := "step", desc := "(I)Z" } : Jvm.MethodName)) ∈ md_Ts := mw_4 104 rfl rfl
theorem tw_825 : (Jvm.Cond.code ({ cls := "TaskCoresModel", name := "step", desc := "(I)Z" } : Jvm.MethodName) prog_12_method_25_code (4 : Nat) (Option.some Jvm.ClassFile.FieldType.boolean)) ∈ md_Ts := mw_4 105 rfl rfl
theorem tw_826 : (Jvm.Cond.methodLink "TaskCoresModel" (216 : Nat) ({ cls := "TaskCoresModel", name := "atHand", desc := "()I" } : Jvm.MethodName)) ∈ md_Ts := mw_4 106 rfl rfl
theorem tw_828 : (Jvm.Cond.instanceMethod ({ cls := "TaskCoresModel", name := "atHand", desc := "()I" } : Jvm.MethodName)) ∈ md_Ts := mw_4 108 rfl rfl
theorem tw_829 : (Jvm.Cond.code ({ cls := "TaskCoresModel", name := "atHand", desc := "()I" } : Jvm.MethodName) prog_12_method_24_code (4 : Nat) (Option.some Jvm.ClassFile.FieldType.int)) ∈ md_Ts := mw_4 109 rfl rfl
theorem tw_830 : (Jvm.Cond.methodLink "TaskCoresModel" (220 : Nat) ({ cls := "TaskCoresModel", name := "choose", desc := "(I)I" } : Jvm.MethodName)) ∈ md_Ts := mw_4 110 rfl rfl
theorem tw_832 : (Jvm.Cond.instanceMethod ({ cls := "TaskCoresModel", name := "choose", desc := "(I)I" } : Jvm.MethodName)) ∈ md_Ts := mw_4 112 rfl rfl
theorem tw_833 : (Jvm.Cond.code ({ cls := "TaskCoresModel", name := "choose", desc := "(I)I" } : Jvm.MethodName) prog_12_method_23_code (7 : Nat) (Option.some Jvm.ClassFile.FieldType.int)) ∈ md_Ts := mw_4 113 rfl rfl
theorem tw_834 : (Jvm.Cond.methodLink "TaskCoresModel" (209 : Nat) ({ cls := "TaskCoresModel", name := "runningOf", desc := "(I)I" } : Jvm.MethodName)) ∈ md_Ts := mw_4 114 rfl rfl
theorem tw_836 : (Jvm.Cond.instanceMethod ({ cls := "TaskCoresModel", name := "runningOf", desc := "(I)I" } : Jvm.MethodName)) ∈ md_Ts := mw_4 116 rfl rfl
theorem tw_837 : (Jvm.Cond.code ({ cls := "TaskCoresModel", name := "runningOf", desc := "(I)I" } : Jvm.MethodName) prog_12_method_22_code (4 : Nat) (Option.some Jvm.ClassFile.FieldType.int)) ∈ md_Ts := mw_4 117 rfl rfl
theorem tw_838 : (Jvm.Cond.methodLink "TaskCoresModel" (213 : Nat) ({ cls := "TaskCoresModel", name := "height", desc := "(I)I" } : Jvm.MethodName)) ∈ md_Ts := mw_4 118 rfl rfl
theorem tw_840 : (Jvm.Cond.instanceMethod ({ cls := "TaskCoresModel", name := "height", desc := "(I)I" } : Jvm.MethodName)) ∈ md_Ts := mw_4 120 rfl rfl
theorem tw_841 : (Jvm.Cond.code ({ cls := "TaskCoresModel", name := "height", desc := "(I)I" } : Jvm.MethodName) prog_12_method_20_code (4 : Nat) (Option.some Jvm.ClassFile.FieldType.int)) ∈ md_Ts := mw_4 121 rfl rfl
theorem tw_842 : (Jvm.Cond.methodLink "TaskCoresModel" (223 : Nat) ({ cls := "TaskCoresModel", name := "nextPart", desc := "(I)I" } : Jvm.MethodName)) ∈ md_Ts := mw_4 122 rfl rfl
theorem tw_844 : (Jvm.Cond.instanceMethod ({ cls := "TaskCoresModel", name := "nextPart", desc := "(I)I" } : Jvm.MethodName)) ∈ md_Ts := mw_4 124 rfl rfl
theorem tw_845 : (Jvm.Cond.code ({ cls := "TaskCoresModel", name := "nextPart", desc := "(I)I" } : Jvm.MethodName) prog_12_method_17_code (4 : Nat) (Option.some Jvm.ClassFile.FieldType.int)) ∈ md_Ts := mw_4 125 rfl rfl
theorem tw_846 : (Jvm.Cond.methodLink "TaskCoresModel" (191 : Nat) ({ cls := "TaskCoresModel", name := "ends", desc := "(I)V" } : Jvm.MethodName)) ∈ md_Ts := mw_4 126 rfl rfl
theorem tw_848 : (Jvm.Cond.instanceMethod ({ cls := "TaskCoresModel", name := "ends", desc := "(I)V" } : Jvm.MethodName)) ∈ md_Ts := mw_4 128 rfl rfl
theorem tw_849 : (Jvm.Cond.code ({ cls := "TaskCoresModel", name := "ends", desc := "(I)V" } : Jvm.MethodName) prog_12_method_16_code (2 : Nat) (Option.none : Option Jvm.ClassFile.FieldType)) ∈ md_Ts := mw_4 129 rfl rfl
theorem tw_850 : (Jvm.Cond.methodLink "TaskCoresModel" (182 : Nat) ({ cls := "TaskCoresModel", name := "free", desc := "(I)V" } : Jvm.MethodName)) ∈ md_Ts := mw_4 130 rfl rfl
theorem tw_852 : (Jvm.Cond.instanceMethod ({ cls := "TaskCoresModel", name := "free", desc := "(I)V" } : Jvm.MethodName)) ∈ md_Ts := mw_4 132 rfl rfl
theorem tw_853 : (Jvm.Cond.code ({ cls := "TaskCoresModel", name := "free", desc := "(I)V" } : Jvm.MethodName) prog_12_method_15_code (4 : Nat) (Option.none : Option Jvm.ClassFile.FieldType)) ∈ md_Ts := mw_4 133 rfl rfl
theorem tw_854 : (Jvm.Cond.methodLink "TaskCoresModel" (173 : Nat) ({ cls := "TaskCoresModel", name := "holdsSome", desc := "(I)Z" } : Jvm.MethodName)) ∈ md_Ts := mw_4 134 rfl rfl
theorem tw_856 : (Jvm.Cond.instanceMethod ({ cls := "TaskCoresModel", name := "holdsSome", desc := "(I)Z" } : Jvm.MethodName)) ∈ md_Ts := mw_4 136 rfl rfl
theorem tw_857 : (Jvm.Cond.code ({ cls := "TaskCoresModel", name := "holdsSome", desc := "(I)Z" } : Jvm.MethodName) prog_12_method_14_code (4 : Nat) (Option.some Jvm.ClassFile.FieldType.boolean)) ∈ md_Ts := mw_4 137 rfl rfl
theorem tw_858 : (Jvm.Cond.methodLink "TaskCoresModel" (179 : Nat) ({ cls := "TaskCoresModel", name := "unlock", desc := "(I)V" } : Jvm.MethodName)) ∈ md_Ts := mw_4 138 rfl rfl
theorem tw_860 : (Jvm.Cond.instanceMethod ({ cls := "TaskCoresModel", name := "unlock", desc := "(I)V" } : Jvm.MethodName)) ∈ md_Ts := mw_4 140 rfl rfl
theorem tw_861 : (Jvm.Cond.code ({ cls := "TaskCoresModel", name := "unlock", desc := "(I)V" } : Jvm.MethodName) prog_12_method_13_code (4 : Nat) (Option.none : Option Jvm.ClassFile.FieldType)) ∈ md_Ts := mw_4 141 rfl rfl
theorem tw_862 : (Jvm.Cond.methodLink "TaskCoresModel" (226 : Nat) ({ cls := "TaskCoresModel", name := "act", desc := "(IIJ)V" } : Jvm.MethodName)) ∈ md_Ts := mw_4 142 rfl rfl
theorem tw_864 : (Jvm.Cond.instanceMethod ({ cls := "TaskCoresModel", name := "act", desc := "(IIJ)V" } : Jvm.MethodName)) ∈ md_Ts := mw_4 144 rfl rfl
theorem tw_865 : (Jvm.Cond.code ({ cls := "TaskCoresModel", name := "act", desc := "(IIJ)V" } : Jvm.MethodName) prog_12_method_18_code (8 : Nat) (Option.none : Option Jvm.ClassFile.FieldType)) ∈ md_Ts := mw_4 145 rfl rfl
theorem tw_866 : (Jvm.Cond.methodLink "TaskCoresModel" (188 : Nat) ({ cls := "TaskCoresModel", name := "chain", desc := "(II)V" } : Jvm.MethodName)) ∈ md_Ts := mw_4 146 rfl rfl
theorem tw_868 : (Jvm.Cond.instanceMethod ({ cls := "TaskCoresModel", name := "chain", desc := "(II)V" } : Jvm.MethodName)) ∈ md_Ts := mw_4 148 rfl rfl
theorem tw_869 : (Jvm.Cond.code ({ cls := "TaskCoresModel", name := "chain", desc := "(II)V" } : Jvm.MethodName) prog_12_method_19_code (3 : Nat) (Option.none : Option Jvm.ClassFile.FieldType)) ∈ md_Ts := mw_4 149 rfl rfl
theorem tw_870 : (Jvm.Cond.constant "TaskCoresModel" (197 : Nat) (65536 : Int32)) ∈ md_Ts := mw_4 150 rfl rfl
theorem tw_871 : (Jvm.Cond.methodLink "TaskCoresModel" (198 : Nat) ({ cls := "TaskCoresModel", name := "set", desc := "(II)Z" } : Jvm.MethodName)) ∈ md_Ts := mw_4 151 rfl rfl
theorem tw_873 : (Jvm.Cond.instanceMethod ({ cls := "TaskCoresModel", name := "set", desc := "(II)Z" } : Jvm.MethodName)) ∈ md_Ts := mw_4 153 rfl rfl
theorem tw_874 : (Jvm.Cond.code ({ cls := "TaskCoresModel", name := "set", desc := "(II)Z" } : Jvm.MethodName) prog_12_method_12_code (3 : Nat) (Option.some Jvm.ClassFile.FieldType.boolean)) ∈ md_Ts := mw_4 154 rfl rfl
theorem tw_875 : (Jvm.Cond.constant "TaskCoresModel" (235 : Nat) (50000 : Int32)) ∈ md_Ts := mw_4 155 rfl rfl
theorem tw_876 : (Jvm.Cond.methodLink "TaskCoresModel" (236 : Nat) ({ cls := "TaskCoresModel", name := "pass", desc := "(I)V" } : Jvm.MethodName)) ∈ md_Ts := mw_4 156 rfl rfl
theorem tw_878 : (Jvm.Cond.instanceMethod ({ cls := "TaskCoresModel", name := "pass", desc := "(I)V" } : Jvm.MethodName)) ∈ md_Ts := mw_4 158 rfl rfl
theorem tw_879 : (Jvm.Cond.code ({ cls := "TaskCoresModel", name := "pass", desc := "(I)V" } : Jvm.MethodName) prog_12_method_26_code (2 : Nat) (Option.none : Option Jvm.ClassFile.FieldType)) ∈ md_Ts := mw_4 159 rfl rfl
theorem tw_880 : (Jvm.Cond.constantLong "TaskCoresModel" (230 : Nat) (-1 : Int64)) ∈ md_Ts := mw_4 160 rfl rfl
theorem tw_881 : (Jvm.Cond.methodLink "TaskCoresLaw" (57 : Nat) ({ cls := "TaskCoresModel", name := "now", desc := "()J" } : Jvm.MethodName)) ∈ md_Ts := mw_4 161 rfl rfl
theorem tw_882 : (Jvm.Cond.instanceMethod ({ cls := "TaskCoresModel", name := "now", desc := "()J" } : Jvm.MethodName)) ∈ md_Ts := mw_4 162 rfl rfl
theorem tw_883 : (Jvm.Cond.selects "TaskCoresModel" ({ cls := "TaskCoresModel", name := "now", desc := "()J" } : Jvm.MethodName) ({ cls := "TaskCoresModel", name := "now", desc := "()J" } : Jvm.MethodName)) ∈ md_Ts := mw_4 163 rfl rfl
theorem tw_884 : (Jvm.Cond.code ({ cls := "TaskCoresModel", name := "now", desc := "()J" } : Jvm.MethodName) prog_12_method_29_code (1 : Nat) (Option.some Jvm.ClassFile.FieldType.long)) ∈ md_Ts := mw_4 164 rfl rfl
theorem tw_885 : (Jvm.Cond.methodLink "TaskCoresLaw" (61 : Nat) ({ cls := "TaskCoresModel", name := "running", desc := "(IJ)I" } : Jvm.MethodName)) ∈ md_Ts := mw_4 165 rfl rfl
theorem tw_886 : (Jvm.Cond.instanceMethod ({ cls := "TaskCoresModel", name := "running", desc := "(IJ)I" } : Jvm.MethodName)) ∈ md_Ts := mw_4 166 rfl rfl
theorem tw_887 : (Jvm.Cond.selects "TaskCoresModel" ({ cls := "TaskCoresModel", name := "running", desc := "(IJ)I" } : Jvm.MethodName) ({ cls := "TaskCoresModel", name := "running", desc := "(IJ)I" } : Jvm.MethodName)) ∈ md_Ts := mw_4 167 rfl rfl
theorem tw_888 : (Jvm.Cond.code ({ cls := "TaskCoresModel", name := "running", desc := "(IJ)I" } : Jvm.MethodName) prog_12_method_30_code (4 : Nat) (Option.some Jvm.ClassFile.FieldType.int)) ∈ md_Ts := mw_4 168 rfl rfl
theorem tw_889 : (Jvm.Cond.methodLink "TaskCoresLaw" (66 : Nat) ({ cls := "TaskCoresModel", name := "used", desc := "(I)J" } : Jvm.MethodName)) ∈ md_Ts := mw_4 169 rfl rfl
theorem tw_890 : (Jvm.Cond.instanceMethod ({ cls := "TaskCoresModel", name := "used", desc := "(I)J" } : Jvm.MethodName)) ∈ md_Ts := mw_4 170 rfl rfl
theorem tw_891 : (Jvm.Cond.selects "TaskCoresModel" ({ cls := "TaskCoresModel", name := "used", desc := "(I)J" } : Jvm.MethodName) ({ cls := "TaskCoresModel", name := "used", desc := "(I)J" } : Jvm.MethodName)) ∈ md_Ts := mw_4 171 rfl rfl
theorem tw_892 : (Jvm.Cond.code ({ cls := "TaskCoresModel", name := "used", desc := "(I)J" } : Jvm.MethodName) prog_12_method_31_code (2 : Nat) (Option.some Jvm.ClassFile.FieldType.long)) ∈ md_Ts := mw_4 172 rfl rfl
theorem tw_893 : (Jvm.Cond.methodLink "TaskCoresLaw" (71 : Nat) ({ cls := "TaskCoresModel", name := "state", desc := "(I)I" } : Jvm.MethodName)) ∈ md_Ts := mw_4 173 rfl rfl
theorem tw_894 : (Jvm.Cond.instanceMethod ({ cls := "TaskCoresModel", name := "state", desc := "(I)I" } : Jvm.MethodName)) ∈ md_Ts := mw_4 174 rfl rfl
theorem tw_895 : (Jvm.Cond.selects "TaskCoresModel" ({ cls := "TaskCoresModel", name := "state", desc := "(I)I" } : Jvm.MethodName) ({ cls := "TaskCoresModel", name := "state", desc := "(I)I" } : Jvm.MethodName)) ∈ md_Ts := mw_4 175 rfl rfl
theorem tw_896 : (Jvm.Cond.code ({ cls := "TaskCoresModel", name := "state", desc := "(I)I" } : Jvm.MethodName) prog_12_method_32_code (2 : Nat) (Option.some Jvm.ClassFile.FieldType.int)) ∈ md_Ts := mw_4 176 rfl rfl
theorem tw_897 : (Jvm.Cond.methodLink "TaskCoresLaw" (76 : Nat) ({ cls := "TaskCoresModel", name := "event", desc := "(II)I" } : Jvm.MethodName)) ∈ md_Ts := mw_4 177 rfl rfl
theorem tw_898 : (Jvm.Cond.instanceMethod ({ cls := "TaskCoresModel", name := "event", desc := "(II)I" } : Jvm.MethodName)) ∈ md_Ts := mw_4 178 rfl rfl
theorem tw_899 : (Jvm.Cond.selects "TaskCoresModel" ({ cls := "TaskCoresModel", name := "event", desc := "(II)I" } : Jvm.MethodName) ({ cls := "TaskCoresModel", name := "event", desc := "(II)I" } : Jvm.MethodName)) ∈ md_Ts := mw_4 179 rfl rfl
theorem tw_900 : (Jvm.Cond.code ({ cls := "TaskCoresModel", name := "event", desc := "(II)I" } : Jvm.MethodName) prog_12_method_33_code (3 : Nat) (Option.some Jvm.ClassFile.FieldType.int)) ∈ md_Ts := mw_4 180 rfl rfl
theorem tw_901 : (Jvm.Cond.constant "TaskCoresModel" (245 : Nat) (65535 : Int32)) ∈ md_Ts := mw_4 181 rfl rfl
theorem tw_902 : (Jvm.Cond.methodLink "TaskCoresLaw" (80 : Nat) ({ cls := "TaskCoresModel", name := "events", desc := "(I)I" } : Jvm.MethodName)) ∈ md_Ts := mw_4 182 rfl rfl
theorem tw_903 : (Jvm.Cond.instanceMethod ({ cls := "TaskCoresModel", name := "events", desc := "(I)I" } : Jvm.MethodName)) ∈ md_Ts := mw_4 183 rfl rfl
theorem tw_904 : (Jvm.Cond.selects "TaskCoresModel" ({ cls := "TaskCoresModel", name := "events", desc := "(I)I" } : Jvm.MethodName) ({ cls := "TaskCoresModel", name := "events", desc := "(I)I" } : Jvm.MethodName)) ∈ md_Ts := mw_4 184 rfl rfl
theorem tw_905 : (Jvm.Cond.code ({ cls := "TaskCoresModel", name := "events", desc := "(I)I" } : Jvm.MethodName) prog_12_method_34_code (2 : Nat) (Option.some Jvm.ClassFile.FieldType.int)) ∈ md_Ts := mw_4 185 rfl rfl
theorem tw_906 : (Jvm.Cond.methodLink "TaskCoresLaw" (84 : Nat) ({ cls := "TaskCoresModel", name := "code", desc := "(II)I" } : Jvm.MethodName)) ∈ md_Ts := mw_4 186 rfl rfl
theorem tw_907 : (Jvm.Cond.instanceMethod ({ cls := "TaskCoresModel", name := "code", desc := "(II)I" } : Jvm.MethodName)) ∈ md_Ts := mw_4 187 rfl rfl
theorem tw_908 : (Jvm.Cond.selects "TaskCoresModel" ({ cls := "TaskCoresModel", name := "code", desc := "(II)I" } : Jvm.MethodName) ({ cls := "TaskCoresModel", name := "code", desc := "(II)I" } : Jvm.MethodName)) ∈ md_Ts := mw_4 188 rfl rfl
theorem tw_909 : (Jvm.Cond.code ({ cls := "TaskCoresModel", name := "code", desc := "(II)I" } : Jvm.MethodName) prog_12_method_35_code (3 : Nat) (Option.some Jvm.ClassFile.FieldType.int)) ∈ md_Ts := mw_4 189 rfl rfl
theorem tw_910 : (Jvm.Cond.methodLink "TaskCoresLaw" (88 : Nat) ({ cls := "TaskCoresModel", name := "order", desc := "(II)I" } : Jvm.MethodName)) ∈ md_Ts := mw_4 190 rfl rfl
theorem tw_911 : (Jvm.Cond.instanceMethod ({ cls := "TaskCoresModel", name := "order", desc := "(II)I" } : Jvm.MethodName)) ∈ md_Ts := mw_4 191 rfl rfl
theorem tw_912 : (Jvm.Cond.selects "TaskCoresModel" ({ cls := "TaskCoresModel", name := "order", desc := "(II)I" } : Jvm.MethodName) ({ cls := "TaskCoresModel", name := "order", desc := "(II)I" } : Jvm.MethodName)) ∈ md_Ts := mw_4 192 rfl rfl
theorem tw_913 : (Jvm.Cond.code ({ cls := "TaskCoresModel", name := "order", desc := "(II)I" } : Jvm.MethodName) prog_12_method_37_code (7 : Nat) (Option.some Jvm.ClassFile.FieldType.int)) ∈ md_Ts := mw_4 193 rfl rfl
theorem tw_914 : (Jvm.Cond.methodLink "TaskCoresModel" (246 : Nat) ({ cls := "TaskCoresModel", name := "isSwitch", desc := "(II)Z" } : Jvm.MethodName)) ∈ md_Ts := mw_4 194 rfl rfl
theorem tw_916 : (Jvm.Cond.instanceMethod ({ cls := "TaskCoresModel", name := "isSwitch", desc := "(II)Z" } : Jvm.MethodName)) ∈ md_Ts := mw_4 196 rfl rfl
theorem tw_917 : (Jvm.Cond.code ({ cls := "TaskCoresModel", name := "isSwitch", desc := "(II)Z" } : Jvm.MethodName) prog_12_method_36_code (3 : Nat) (Option.some Jvm.ClassFile.FieldType.boolean)) ∈ md_Ts := mw_4 197 rfl rfl
theorem tw_918 : (Jvm.Cond.methodLink "TaskCoresLaw" (92 : Nat) ({ cls := "TaskCoresModel", name := "spin", desc := "(II)I" } : Jvm.MethodName)) ∈ md_Ts := mw_4 198 rfl rfl
theorem tw_919 : (Jvm.Cond.instanceMethod ({ cls := "TaskCoresModel", name := "spin", desc := "(II)I" } : Jvm.MethodName)) ∈ md_Ts := mw_4 199 rfl rfl
theorem tw_920 : (Jvm.Cond.selects "TaskCoresModel" ({ cls := "TaskCoresModel", name := "spin", desc := "(II)I" } : Jvm.MethodName) ({ cls := "TaskCoresModel", name := "spin", desc := "(II)I" } : Jvm.MethodName)) ∈ md_Ts := mw_4 200 rfl rfl
theorem tw_921 : (Jvm.Cond.code ({ cls := "TaskCoresModel", name := "spin", desc := "(II)I" } : Jvm.MethodName) prog_12_method_38_code (5 : Nat) (Option.some Jvm.ClassFile.FieldType.int)) ∈ md_Ts := mw_4 201 rfl rfl
theorem tw_922 : (Jvm.Cond.methodLink "TaskCoresLaw" (96 : Nat) ({ cls := "TaskCoresModel", name := "holder", desc := "(I)I" } : Jvm.MethodName)) ∈ md_Ts := mw_4 202 rfl rfl
theorem tw_923 : (Jvm.Cond.instanceMethod ({ cls := "TaskCoresModel", name := "holder", desc := "(I)I" } : Jvm.MethodName)) ∈ md_Ts := mw_4 203 rfl rfl
theorem tw_924 : (Jvm.Cond.selects "TaskCoresModel" ({ cls := "TaskCoresModel", name := "holder", desc := "(I)I" } : Jvm.MethodName) ({ cls := "TaskCoresModel", name := "holder", desc := "(I)I" } : Jvm.MethodName)) ∈ md_Ts := mw_4 204 rfl rfl
theorem tw_925 : (Jvm.Cond.code ({ cls := "TaskCoresModel", name := "holder", desc := "(I)I" } : Jvm.MethodName) prog_12_method_39_code (2 : Nat) (Option.some Jvm.ClassFile.FieldType.int)) ∈ md_Ts := mw_4 205 rfl rfl
theorem tw_926 : (Jvm.Cond.constantLong "TaskCoresLaw" (26 : Nat) (4294967295 : Int64)) ∈ md_Ts := mw_4 206 rfl rfl
theorem tp_0 : Cond.selects "TaskCores" ({ cls := "TaskCores", name := "coreOf", desc := "(I)LTaskCores$Core;" } : Jvm.MethodName) ({ cls := "TaskCores", name := "coreOf", desc := "(I)LTaskCores$Core;" } : Jvm.MethodName) ∈ md_Ts := mw_p 0 rfl rfl
theorem tp_1 : Cond.selects "TaskCores" ({ cls := "TaskCores", name := "taskOf", desc := "(I)LTaskCores$Task;" } : Jvm.MethodName) ({ cls := "TaskCores", name := "taskOf", desc := "(I)LTaskCores$Task;" } : Jvm.MethodName) ∈ md_Ts := mw_p 1 rfl rfl
theorem tp_2 : Cond.selects "TaskCores" ({ cls := "TaskCores", name := "resourceOf", desc := "(I)LTaskCores$Resource;" } : Jvm.MethodName) ({ cls := "TaskCores", name := "resourceOf", desc := "(I)LTaskCores$Resource;" } : Jvm.MethodName) ∈ md_Ts := mw_p 2 rfl rfl
theorem tp_3 : Cond.selects "TaskCores" ({ cls := "TaskCores", name := "isToCome", desc := "(J)Z" } : Jvm.MethodName) ({ cls := "TaskCores", name := "isToCome", desc := "(J)Z" } : Jvm.MethodName) ∈ md_Ts := mw_p 3 rfl rfl
theorem tp_4 : Cond.selects "TaskCores" ({ cls := "TaskCores", name := "addTelling", desc := "(LTaskCores$Telling;)V" } : Jvm.MethodName) ({ cls := "TaskCores", name := "addTelling", desc := "(LTaskCores$Telling;)V" } : Jvm.MethodName) ∈ md_Ts := mw_p 4 rfl rfl
theorem tp_5 : Cond.selects "TaskCores" ({ cls := "TaskCores", name := "activateThoseTold", desc := "()V" } : Jvm.MethodName) ({ cls := "TaskCores", name := "activateThoseTold", desc := "()V" } : Jvm.MethodName) ∈ md_Ts := mw_p 5 rfl rfl
theorem tp_6 : Cond.selects "TaskCores" ({ cls := "TaskCores", name := "activateTask", desc := "(LTaskCores$Task;)V" } : Jvm.MethodName) ({ cls := "TaskCores", name := "activateTask", desc := "(LTaskCores$Task;)V" } : Jvm.MethodName) ∈ md_Ts := mw_p 6 rfl rfl
theorem tp_7 : Cond.selects "TaskCores" ({ cls := "TaskCores", name := "startTask", desc := "(LTaskCores$Task;)V" } : Jvm.MethodName) ({ cls := "TaskCores", name := "startTask", desc := "(LTaskCores$Task;)V" } : Jvm.MethodName) ∈ md_Ts := mw_p 7 rfl rfl
theorem tp_8 : Cond.selects "TaskCores" ({ cls := "TaskCores", name := "makeReady", desc := "(LTaskCores$Task;)V" } : Jvm.MethodName) ({ cls := "TaskCores", name := "makeReady", desc := "(LTaskCores$Task;)V" } : Jvm.MethodName) ∈ md_Ts := mw_p 8 rfl rfl
theorem tp_9 : Cond.selects "TaskCores" ({ cls := "TaskCores", name := "tellCode", desc := "(ILTaskCores$Task;)V" } : Jvm.MethodName) ({ cls := "TaskCores", name := "tellCode", desc := "(ILTaskCores$Task;)V" } : Jvm.MethodName) ∈ md_Ts := mw_p 9 rfl rfl
theorem tp_10 : Cond.selects "TaskCores" ({ cls := "TaskCores", name := "takeSteps", desc := "()V" } : Jvm.MethodName) ({ cls := "TaskCores", name := "takeSteps", desc := "()V" } : Jvm.MethodName) ∈ md_Ts := mw_p 10 rfl rfl
theorem tp_11 : Cond.selects "TaskCores" ({ cls := "TaskCores", name := "taskWithStep", desc := "(LTaskCores$Core;)LTaskCores$Task;" } : Jvm.MethodName) ({ cls := "TaskCores", name := "taskWithStep", desc := "(LTaskCores$Core;)LTaskCores$Task;" } : Jvm.MethodName) ∈ md_Ts := mw_p 11 rfl rfl
theorem tp_12 : Cond.selects "TaskCores" ({ cls := "TaskCores", name := "choose", desc := "(LTaskCores$Core;)V" } : Jvm.MethodName) ({ cls := "TaskCores", name := "choose", desc := "(LTaskCores$Core;)V" } : Jvm.MethodName) ∈ md_Ts := mw_p 12 rfl rfl
theorem tp_13 : Cond.selects "TaskCores" ({ cls := "TaskCores", name := "lockOf", desc := "(I)LTaskCores$Lock;" } : Jvm.MethodName) ({ cls := "TaskCores", name := "lockOf", desc := "(I)LTaskCores$Lock;" } : Jvm.MethodName) ∈ md_Ts := mw_p 13 rfl rfl
theorem tp_14 : Cond.selects "TaskCores" ({ cls := "TaskCores", name := "doNextPart", desc := "(LTaskCores$Task;)V" } : Jvm.MethodName) ({ cls := "TaskCores", name := "doNextPart", desc := "(LTaskCores$Task;)V" } : Jvm.MethodName) ∈ md_Ts := mw_p 14 rfl rfl
theorem tp_15 : Cond.selects "TaskCores" ({ cls := "TaskCores", name := "endTask", desc := "(LTaskCores$Task;)V" } : Jvm.MethodName) ({ cls := "TaskCores", name := "endTask", desc := "(LTaskCores$Task;)V" } : Jvm.MethodName) ∈ md_Ts := mw_p 15 rfl rfl
theorem tp_16 : Cond.selects "TaskCores" ({ cls := "TaskCores", name := "freeAll", desc := "(LTaskCores$Task;)Z" } : Jvm.MethodName) ({ cls := "TaskCores", name := "freeAll", desc := "(LTaskCores$Task;)Z" } : Jvm.MethodName) ∈ md_Ts := mw_p 16 rfl rfl
theorem tp_17 : Cond.selects "TaskCores" ({ cls := "TaskCores", name := "activateByTask", desc := "(LTaskCores$Task;I)V" } : Jvm.MethodName) ({ cls := "TaskCores", name := "activateByTask", desc := "(LTaskCores$Task;I)V" } : Jvm.MethodName) ∈ md_Ts := mw_p 17 rfl rfl
theorem tp_18 : Cond.selects "TaskCores" ({ cls := "TaskCores", name := "chain", desc := "(LTaskCores$Task;I)V" } : Jvm.MethodName) ({ cls := "TaskCores", name := "chain", desc := "(LTaskCores$Task;I)V" } : Jvm.MethodName) ∈ md_Ts := mw_p 18 rfl rfl
theorem tp_19 : Cond.selects "TaskCores" ({ cls := "TaskCores", name := "waitFor", desc := "(LTaskCores$Task;I)V" } : Jvm.MethodName) ({ cls := "TaskCores", name := "waitFor", desc := "(LTaskCores$Task;I)V" } : Jvm.MethodName) ∈ md_Ts := mw_p 19 rfl rfl
theorem tp_20 : Cond.selects "TaskCores" ({ cls := "TaskCores", name := "setByTask", desc := "(LTaskCores$Task;II)V" } : Jvm.MethodName) ({ cls := "TaskCores", name := "setByTask", desc := "(LTaskCores$Task;II)V" } : Jvm.MethodName) ∈ md_Ts := mw_p 20 rfl rfl
theorem tp_21 : Cond.selects "TaskCores" ({ cls := "TaskCores", name := "setEvents", desc := "(LTaskCores$Task;I)V" } : Jvm.MethodName) ({ cls := "TaskCores", name := "setEvents", desc := "(LTaskCores$Task;I)V" } : Jvm.MethodName) ∈ md_Ts := mw_p 21 rfl rfl
theorem tp_22 : Cond.selects "TaskCores" ({ cls := "TaskCores", name := "clearEvents", desc := "(LTaskCores$Task;I)V" } : Jvm.MethodName) ({ cls := "TaskCores", name := "clearEvents", desc := "(LTaskCores$Task;I)V" } : Jvm.MethodName) ∈ md_Ts := mw_p 22 rfl rfl
theorem tp_23 : Cond.selects "TaskCores" ({ cls := "TaskCores", name := "getResource", desc := "(LTaskCores$Task;LTaskCores$Resource;)V" } : Jvm.MethodName) ({ cls := "TaskCores", name := "getResource", desc := "(LTaskCores$Task;LTaskCores$Resource;)V" } : Jvm.MethodName) ∈ md_Ts := mw_p 23 rfl rfl
theorem tp_24 : Cond.selects "TaskCores" ({ cls := "TaskCores", name := "freeResource", desc := "(LTaskCores$Task;LTaskCores$Resource;)V" } : Jvm.MethodName) ({ cls := "TaskCores", name := "freeResource", desc := "(LTaskCores$Task;LTaskCores$Resource;)V" } : Jvm.MethodName) ∈ md_Ts := mw_p 24 rfl rfl
theorem tp_25 : Cond.selects "TaskCores" ({ cls := "TaskCores", name := "takeLock", desc := "(LTaskCores$Task;LTaskCores$Lock;)V" } : Jvm.MethodName) ({ cls := "TaskCores", name := "takeLock", desc := "(LTaskCores$Task;LTaskCores$Lock;)V" } : Jvm.MethodName) ∈ md_Ts := mw_p 25 rfl rfl
theorem tp_26 : Cond.selects "TaskCores" ({ cls := "TaskCores", name := "unlock", desc := "(LTaskCores$Task;LTaskCores$Lock;)V" } : Jvm.MethodName) ({ cls := "TaskCores", name := "unlock", desc := "(LTaskCores$Task;LTaskCores$Lock;)V" } : Jvm.MethodName) ∈ md_Ts := mw_p 26 rfl rfl
theorem tp_27 : Cond.selects "TaskCores" ({ cls := "TaskCores", name := "putOff", desc := "(LTaskCores$Task;I)V" } : Jvm.MethodName) ({ cls := "TaskCores", name := "putOff", desc := "(LTaskCores$Task;I)V" } : Jvm.MethodName) ∈ md_Ts := mw_p 27 rfl rfl
theorem tp_28 : Cond.selects "TaskCores" ({ cls := "TaskCores", name := "putOn", desc := "(LTaskCores$Task;)V" } : Jvm.MethodName) ({ cls := "TaskCores", name := "putOn", desc := "(LTaskCores$Task;)V" } : Jvm.MethodName) ∈ md_Ts := mw_p 28 rfl rfl
theorem tp_29 : Cond.selects "TaskCores" ({ cls := "TaskCores", name := "tellIfOffTooLong", desc := "()V" } : Jvm.MethodName) ({ cls := "TaskCores", name := "tellIfOffTooLong", desc := "()V" } : Jvm.MethodName) ∈ md_Ts := mw_p 29 rfl rfl
theorem tp_30 : Cond.selects "TaskCores" ({ cls := "TaskCores", name := "quietMicroseconds", desc := "(I)I" } : Jvm.MethodName) ({ cls := "TaskCores", name := "quietMicroseconds", desc := "(I)I" } : Jvm.MethodName) ∈ md_Ts := mw_p 30 rfl rfl
theorem tp_31 : Cond.selects "TaskCores" ({ cls := "TaskCores", name := "passMicroseconds", desc := "(I)I" } : Jvm.MethodName) ({ cls := "TaskCores", name := "passMicroseconds", desc := "(I)I" } : Jvm.MethodName) ∈ md_Ts := mw_p 31 rfl rfl
theorem tp_32 : Cond.selects "TaskCoresModel" ({ cls := "TaskCoresModel", name := "no", desc := "(I)Z" } : Jvm.MethodName) ({ cls := "TaskCoresModel", name := "no", desc := "(I)Z" } : Jvm.MethodName) ∈ md_Ts := mw_p 32 rfl rfl
theorem tp_33 : Cond.selects "TaskCoresModel" ({ cls := "TaskCoresModel", name := "findCeilings", desc := "()V" } : Jvm.MethodName) ({ cls := "TaskCoresModel", name := "findCeilings", desc := "()V" } : Jvm.MethodName) ∈ md_Ts := mw_p 33 rfl rfl
theorem tp_34 : Cond.selects "TaskCoresModel" ({ cls := "TaskCoresModel", name := "microsecond", desc := "()I" } : Jvm.MethodName) ({ cls := "TaskCoresModel", name := "microsecond", desc := "()I" } : Jvm.MethodName) ∈ md_Ts := mw_p 34 rfl rfl
theorem tp_35 : Cond.selects "TaskCoresModel" ({ cls := "TaskCoresModel", name := "begin", desc := "(I)V" } : Jvm.MethodName) ({ cls := "TaskCoresModel", name := "begin", desc := "(I)V" } : Jvm.MethodName) ∈ md_Ts := mw_p 35 rfl rfl
theorem tp_36 : Cond.selects "TaskCoresModel" ({ cls := "TaskCoresModel", name := "tell", desc := "(II)V" } : Jvm.MethodName) ({ cls := "TaskCoresModel", name := "tell", desc := "(II)V" } : Jvm.MethodName) ∈ md_Ts := mw_p 36 rfl rfl
theorem tp_37 : Cond.selects "TaskCoresModel" ({ cls := "TaskCoresModel", name := "ready", desc := "(I)V" } : Jvm.MethodName) ({ cls := "TaskCoresModel", name := "ready", desc := "(I)V" } : Jvm.MethodName) ∈ md_Ts := mw_p 37 rfl rfl
theorem tp_38 : Cond.selects "TaskCoresModel" ({ cls := "TaskCoresModel", name := "step", desc := "(I)Z" } : Jvm.MethodName) ({ cls := "TaskCoresModel", name := "step", desc := "(I)Z" } : Jvm.MethodName) ∈ md_Ts := mw_p 38 rfl rfl
theorem tp_39 : Cond.selects "TaskCoresModel" ({ cls := "TaskCoresModel", name := "atHand", desc := "()I" } : Jvm.MethodName) ({ cls := "TaskCoresModel", name := "atHand", desc := "()I" } : Jvm.MethodName) ∈ md_Ts := mw_p 39 rfl rfl
theorem tp_40 : Cond.selects "TaskCoresModel" ({ cls := "TaskCoresModel", name := "choose", desc := "(I)I" } : Jvm.MethodName) ({ cls := "TaskCoresModel", name := "choose", desc := "(I)I" } : Jvm.MethodName) ∈ md_Ts := mw_p 40 rfl rfl
theorem tp_41 : Cond.selects "TaskCoresModel" ({ cls := "TaskCoresModel", name := "runningOf", desc := "(I)I" } : Jvm.MethodName) ({ cls := "TaskCoresModel", name := "runningOf", desc := "(I)I" } : Jvm.MethodName) ∈ md_Ts := mw_p 41 rfl rfl
theorem tp_42 : Cond.selects "TaskCoresModel" ({ cls := "TaskCoresModel", name := "height", desc := "(I)I" } : Jvm.MethodName) ({ cls := "TaskCoresModel", name := "height", desc := "(I)I" } : Jvm.MethodName) ∈ md_Ts := mw_p 42 rfl rfl
theorem tp_43 : Cond.selects "TaskCoresModel" ({ cls := "TaskCoresModel", name := "nextPart", desc := "(I)I" } : Jvm.MethodName) ({ cls := "TaskCoresModel", name := "nextPart", desc := "(I)I" } : Jvm.MethodName) ∈ md_Ts := mw_p 43 rfl rfl
theorem tp_44 : Cond.selects "TaskCoresModel" ({ cls := "TaskCoresModel", name := "ends", desc := "(I)V" } : Jvm.MethodName) ({ cls := "TaskCoresModel", name := "ends", desc := "(I)V" } : Jvm.MethodName) ∈ md_Ts := mw_p 44 rfl rfl
theorem tp_45 : Cond.selects "TaskCoresModel" ({ cls := "TaskCoresModel", name := "free", desc := "(I)V" } : Jvm.MethodName) ({ cls := "TaskCoresModel", name := "free", desc := "(I)V" } : Jvm.MethodName) ∈ md_Ts := mw_p 45 rfl rfl
theorem tp_46 : Cond.selects "TaskCoresModel" ({ cls := "TaskCoresModel", name := "holdsSome", desc := "(I)Z" } : Jvm.MethodName) ({ cls := "TaskCoresModel", name := "holdsSome", desc := "(I)Z" } : Jvm.MethodName) ∈ md_Ts := mw_p 46 rfl rfl
theorem tp_47 : Cond.selects "TaskCoresModel" ({ cls := "TaskCoresModel", name := "unlock", desc := "(I)V" } : Jvm.MethodName) ({ cls := "TaskCoresModel", name := "unlock", desc := "(I)V" } : Jvm.MethodName) ∈ md_Ts := mw_p 47 rfl rfl
theorem tp_48 : Cond.selects "TaskCoresModel" ({ cls := "TaskCoresModel", name := "act", desc := "(IIJ)V" } : Jvm.MethodName) ({ cls := "TaskCoresModel", name := "act", desc := "(IIJ)V" } : Jvm.MethodName) ∈ md_Ts := mw_p 48 rfl rfl
theorem tp_49 : Cond.selects "TaskCoresModel" ({ cls := "TaskCoresModel", name := "chain", desc := "(II)V" } : Jvm.MethodName) ({ cls := "TaskCoresModel", name := "chain", desc := "(II)V" } : Jvm.MethodName) ∈ md_Ts := mw_p 49 rfl rfl
theorem tp_50 : Cond.selects "TaskCoresModel" ({ cls := "TaskCoresModel", name := "set", desc := "(II)Z" } : Jvm.MethodName) ({ cls := "TaskCoresModel", name := "set", desc := "(II)Z" } : Jvm.MethodName) ∈ md_Ts := mw_p 50 rfl rfl
theorem tp_51 : Cond.selects "TaskCoresModel" ({ cls := "TaskCoresModel", name := "pass", desc := "(I)V" } : Jvm.MethodName) ({ cls := "TaskCoresModel", name := "pass", desc := "(I)V" } : Jvm.MethodName) ∈ md_Ts := mw_p 51 rfl rfl
theorem tp_52 : Cond.selects "TaskCoresModel" ({ cls := "TaskCoresModel", name := "isSwitch", desc := "(II)Z" } : Jvm.MethodName) ({ cls := "TaskCoresModel", name := "isSwitch", desc := "(II)Z" } : Jvm.MethodName) ∈ md_Ts := mw_p 52 rfl rfl
def md_nest : List (String × Nat × MethodName) := [("TaskCores", 29, ({ cls := "TaskCores$Interrupts", name := "<init>", desc := "()V" } : Jvm.MethodName)), ("TaskCores", 50, ({ cls := "TaskCores$Resource", name := "<init>", desc := "()V" } : Jvm.MethodName)), ("TaskCores", 51, ({ cls := "TaskCores$Lock", name := "<init>", desc := "()V" } : Jvm.MethodName))]
end
section
def mj_ref : FieldType → Bool
  | .object _ => true
  | .array _ => true
  | _ => false
/-! array classes: what the tables say of them in every state -/
/-- what a fresh place holds -/
def mj_dv : FieldType → Value
  | .object _ => .null
  | .array _ => .null
  | .long => .long 0
  | _ => .int 0
def mj_cn : FieldType → String
  | .object C => C
  | ty => ty.toString
def mj_AT (U : State) (cA : ClassId) (ty : FieldType) : Prop := ArrOfT U cA ty ∧ U.vm.findClass ("[" ++ ty.toString) = some cA ∧ (mj_ref ty = true → ∃ (kA : Class) (comp : ClassId), U.vm.classes[cA]? = some kA ∧ kA.kind = .array comp ty ∧ U.vm.findClass (mj_cn ty) = some comp ∧
  (U.vm.classes.findIdx? fun (x : Class) => match x.kind with | .array component _ => component == comp | _ => false) = some cA)
theorem mj_AT.moved {u U : State} {cA : ClassId} {ty : FieldType} (hvm : u.vm.Alike U.vm) (h : mj_AT u cA ty) : mj_AT U cA ty := by
  obtain ⟨h1, h2, h3⟩ := h
  refine ⟨arrOfT_moved hvm h1, by rw [hvm.findClass]; exact h2, fun hr => ?_⟩
  obtain ⟨kA, comp, q1, q2, q3, q4⟩ := h3 hr
  obtain ⟨k', hk', he⟩ := hvm.2.2 _ _ q1
  refine ⟨k', comp, hk', by rw [he]; exact q2, by rw [hvm.findClass]; exact q3, ?_⟩
  have key := va_idx_bare U.vm comp
  rw [show U.vm.bare = u.vm.bare from by first | exact hvm.bare_eq | exact hvm.bare_eq.symm, va_idx_bare] at key
  exact key.symm.trans q4
theorem mj_AT.over {U : State} {cA : ClassId} {ty : FieldType} {args : Array Value} (hr : mj_ref ty = true) (h : mj_AT U cA ty) : (Cond.arrayOver ty).before args U = true := by
  obtain ⟨-, h2, h3⟩ := h
  obtain ⟨kA, comp, q1, q2, q3, q4⟩ := h3 hr
  have key : ∀ nm : String, U.vm.findClass nm = some comp → ((U.vm.findClass nm).bind fun comp => (U.vm.classes.findIdx? fun (x : Class) => match x.kind with | .array component _ => component == comp | _ => false).bind fun c => (U.vm.classes[c]?).map fun (k : Class) => match k.kind with | .array _ t => decide (t = ty) && decide (U.vm.findClass ("[" ++ ty.toString) = some c) | _ => false) = some true := by
    intro nm hnm
    rw [hnm, Option.bind_some]
    refine (congrArg (fun o : Option Nat => (o.bind fun c => (U.vm.classes[c]?).map fun (k : Class) => match k.kind with | .array _ t => decide (t = ty) && decide (U.vm.findClass ("[" ++ ty.toString) = some c) | _ => false)) q4).trans ?_
    simp [q1, q2, h2]
  unfold Cond.before Cond.holds
  cases ty <;> first | (exact absurd hr Bool.false_ne_true) | skip
  · exact beq_iff_eq.mpr (key _ q3)
  · exact beq_iff_eq.mpr (key _ q3)
theorem mj_AT.ofOver {U : State} {ty : FieldType} {args : Array Value} (hr : mj_ref ty = true) (h : (Cond.arrayOver ty).before args U = true) : ∃ cA, mj_AT U cA ty := by
  cases ty <;> first | (exact absurd hr Bool.false_ne_true) | skip
  · obtain ⟨comp, c, k, h1, h2, h3, h4, h5⟩ := Cond.arrayOver_spec h
    exact ⟨c, fun n z => ⟨fun q h => (by cases h), k, h3, comp, h4⟩, h5, fun _ => ⟨k, comp, h3, h4, h1, h2⟩⟩
  · obtain ⟨comp, c, k, h1, h2, h3, h4, h5⟩ := arrayOverA_spec h
    exact ⟨c, fun n z => ⟨fun q h => (by cases h), k, h3, comp, h4⟩, h5, fun _ => ⟨k, comp, h3, h4, h1, h2⟩⟩
/-- the names of the class's tables -/
def mj_snm : Nat → String
  | 0 => "LEAST_VALUE"
  | _ => "MOST_VALUE"
/-- what holds of the old arrays, of the statics that hold two of them, and of the links to private constructors -/
def mj_SK (o : Nat → Nat × Nat × (Nat → Int32)) (Z : Heap) (U : State) : Prop :=
  (∀ j, j < 3 → va_T .int (o j).1 (o j).2.1 (fun k => .int ((o j).2.2 k)) (fun q => Z.size ≤ q) U Z) ∧ (∀ j, j < 2 → va_Z "TaskCores" (mj_snm j) "[I" (.ref (o j).1) (fun q => Z.size ≤ q) U Z) ∧ ∀ q ∈ md_nest, va_Nw (.methodLinkNest q.1 q.2.1 q.2.2 "TaskCores") U
/-! The memory: a tag to each address (0 nothing, ci+1 an object of class ci, 1000+t an array of kind t), ints, references, longs by address and place, lengths of arrays -/
abbrev mj_MM : Type := (Nat → Nat) × (Nat → Nat → Int32) × (Nat → Nat → Option Nat) × (Nat → Nat → Int64) × (Nat → Nat) × Nat × Nat
def mj_t (μ : mj_MM) (a : Nat) : Nat := μ.1 a
def mj_i (μ : mj_MM) (a k : Nat) : Int32 := μ.2.1 a k
def mj_r (μ : mj_MM) (a k : Nat) : Option Nat := μ.2.2.1 a k
def mj_l (μ : mj_MM) (a k : Nat) : Int64 := μ.2.2.2.1 a k
def mj_n (μ : mj_MM) (a : Nat) : Nat := μ.2.2.2.2.1 a
/-- cells and slots made so far -/
def mj_nc (μ : mj_MM) : Nat := μ.2.2.2.2.2.1
def mj_ns (μ : mj_MM) : Nat := μ.2.2.2.2.2.2
def mj_u {α : Type} (f : Nat → Nat → α) (a k : Nat) (x : α) : Nat → Nat → α := fun b j => if j = k then (if b = a then x else f b j) else f b j
def mj_pI (μ : mj_MM) (a k : Nat) (x : Int32) : mj_MM := (μ.1, mj_u μ.2.1 a k x, μ.2.2)
def mj_pR (μ : mj_MM) (a k : Nat) (x : Option Nat) : mj_MM := (μ.1, μ.2.1, mj_u μ.2.2.1 a k x, μ.2.2.2)
def mj_pL (μ : mj_MM) (a k : Nat) (x : Int64) : mj_MM := (μ.1, μ.2.1, μ.2.2.1, mj_u μ.2.2.2.1 a k x, μ.2.2.2.2)
def mj_w {α : Type} (f : Nat → α) (a : Nat) (x : α) : Nat → α := fun b => if b = a then x else f b
/-- a new object or array: tag, all places empty, its length, its slots -/
def mj_new (μ : mj_MM) (a t n k : Nat) : mj_MM := (mj_w μ.1 a t, mj_w μ.2.1 a (fun _ => 0), mj_w μ.2.2.1 a (fun _ => none), mj_w μ.2.2.2.1 a (fun _ => 0), mj_w μ.2.2.2.2.1 a n, μ.2.2.2.2.2.1 + 1, μ.2.2.2.2.2.2 + k)
theorem mj_u_self {α : Type} (f : Nat → Nat → α) (a k : Nat) (x : α) : mj_u f a k x a k = x := by simp [mj_u]
theorem mj_u_ne {α : Type} (f : Nat → Nat → α) {a k b j : Nat} (x : α) (h : ¬ (b = a ∧ j = k)) : mj_u f a k x b j = f b j := by
  unfold mj_u
  by_cases h1 : j = k
  · by_cases h2 : b = a
    · exact absurd ⟨h2, h1⟩ h
    · simp [h1, h2]
  · simp [h1]
theorem mj_u_apart {α : Type} (f : Nat → Nat → α) {a k b j : Nat} (x : α) (h : b ≠ a) : mj_u f a k x b j = f b j := mj_u_ne f x (fun q => h q.1)
theorem mj_u_row {α : Type} (f : Nat → Nat → α) {a k b : Nat} (x : α) (h : b ≠ a) : mj_u f a k x b = f b := funext fun _ => mj_u_apart f x h
/-- what a place of a type shows -/
def mj_val (ty : FieldType) (μ : mj_MM) (a k : Nat) : Value := match ty with
  | .object _ => va_rf (mj_r μ a k)
  | .array _ => va_rf (mj_r μ a k)
  | .long => .long (mj_l μ a k)
  | _ => .int (mj_i μ a k)
def mj_arr (ty : FieldType) (μ : mj_MM) (a : Nat) : vp_A := match ty with
  | .object _ => (mj_n μ a, .inr (.inr (.inr (.inr (mj_r μ a)))))
  | .array _ => (mj_n μ a, .inr (.inr (.inr (.inr (mj_r μ a)))))
  | .long => (mj_n μ a, .inr (.inl (mj_l μ a)))
  | _ => (mj_n μ a, .inl (mj_i μ a))
/-- the launch; classes' numbers and slots; array classes' numbers, and the old arrays (where, how long, what: 0 and 1 the class's tables, 2 the script); the heap at the law's entry -/
abbrev mj_G : Type := Launch × va_G × ((Nat → ClassId) × (Nat → Nat × Nat × (Nat → Int32))) × Heap
/-- a method: its class, code, locals, frames and words that its calls need, what it returns, is it a constructor -/
abbrev mj_Y : Type := String × ByteArray × Nat × Nat × Nat × Option FieldType × Bool
/-- the world: what lay there at the law's entry (G.2.2.2) is as it was; the memory's objects and arrays lie behind it -/
def mj_W (G : mj_G) (μ : mj_MM) (H : Heap) : Prop :=
  G.2.2.2.size ≤ H.size ∧ (∀ q : Nat, q < G.2.2.2.size → H[q]? = G.2.2.2[q]?) ∧ (∀ a : Nat, mj_t μ a ≠ 0 → G.2.2.2.size ≤ a ∧ a < H.size) ∧
  (∀ a ci : Nat, ci < 500 → mj_t μ a = ci + 1 → ∃ r : vw_C, md_cl[ci]? = some r ∧ t_OB a (G.2.1.1 ci) r.2.2 (G.2.1.2 ci) H (fun k => mj_val (md_ty ci k) μ a k)) ∧
  (∀ a t : Nat, mj_t μ a = 1000 + t → ∃ ty : FieldType, md_at[t]? = some ty ∧ H[a]? = some (vp_cell (G.2.2.1.1 t) (mj_arr ty μ a)))
/-- what holds of the tables in every state -/
def mj_K (G : mj_G) (U : State) : Prop := va_K G.2.1 md_cl [] U ∧ (∀ (t : Nat) (ty : FieldType), md_at[t]? = some ty → mj_AT U (G.2.2.1.1 t) ty) ∧ mj_SK G.2.2.1.2 G.2.2.2 U
theorem mj_K.warm {G : mj_G} {u U : State} (hW : u.WarmedH U.vm) (h : mj_K G u) : mj_K G U := ⟨va_K.moved hW.alike h.1, fun t ty q => mj_AT.moved hW.alike (h.2.1 t ty q), fun j hj => va_T.moved hW.alike (h.2.2.1 j hj), fun j hj => va_Z.moved hW.alike (h.2.2.2.1 j hj), fun q hq => va_Nw.warmM hW (h.2.2.2.2 q hq)⟩
theorem mj_K.same {G : mj_G} {u U : State} (hv : u.vm = U.vm) (h : mj_K G u) : mj_K G U := by
  have ha : u.vm.Alike U.vm := by rw [hv]; exact Vm.Alike.refl _
  exact ⟨va_K.moved ha h.1, fun t ty q => mj_AT.moved ha (h.2.1 t ty q), fun j hj => va_T.moved ha (h.2.2.1 j hj), fun j hj => va_Z.moved ha (h.2.2.2.1 j hj), fun q hq => va_Nw.same rfl hv (h.2.2.2.2 q hq)⟩
def mj_ret (cc : ByteArray) (pc : Nat) (rt : Option FieldType) (v : Option Value) : Prop :=
  (v = none ∧ rt = none ∧ decode cc pc = .ok (.return_, 1)) ∨ (∃ (x : Int32) (ty : FieldType), v = some (.int x) ∧ rt = some ty ∧ narrow ty (.int x) = .int x ∧ decode cc pc = .ok (.ireturn, 1)) ∨
  (∃ x : Int64, v = some (.long x) ∧ rt = some .long ∧ decode cc pc = .ok (.lreturn, 1)) ∨ (∃ (r : Option Nat) (ty : FieldType), v = some (va_rf r) ∧ rt = some ty ∧ ((∃ n, ty = .object n) ∨ ∃ t, ty = .array t) ∧ decode cc pc = .ok (.areturn, 1))
def mj_C (G : mj_G) (Y : mj_Y) (Ex : Option Value → mj_MM → Prop) (p : Program) (e : Env) (R : Room) (s : State) (m : MethodId) (args : Array Value) (below : List Frame) (meth : Method) (c : Code) (Q : State → Prop) : Prop :=
  p.tables.exec = Jvm.exec ∧ c.code = Y.2.1 ∧ c.maxLocals = Y.2.2.1 ∧ s.vm.findClass Y.1 = some m.cls ∧ (∀ w ∈ md_Ts, w.before args s = true) ∧ mj_K G s ∧ Y.2.2.2.1 ≤ R.frames ∧ Y.2.2.2.2.1 ≤ R.locals ∧ (Y.2.2.2.2.2.2 = true → meth.name = "<init>") ∧
  ∀ (H : Heap) (locs : List Loc) (cells slots pc : Nat) (ls : Array Slot) (v : Option Value) (μ : mj_MM), mj_W G μ H → (∀ q ∈ locs, G.2.2.2.size ≤ q.base) → cells ≤ R.cells → slots ≤ R.slots → Ex v μ → mj_ret Y.2.1 pc Y.2.2.2.2.2.1 v → W p G.1 e R s m args below meth c H locs cells slots Q (F0 m pc ls v.toList)
/-- THE JUDGEMENT: from pc, with these locals, this stack, this memory, the method comes to its end with Ex, N cells and S slots made by then in all -/
def mj_J (G : mj_G) (Y : mj_Y) (Ex : Option Value → mj_MM → Prop) (N S pc : Nat) (lv : List (Nat × Value)) (st : List Value) (μ : mj_MM) : Prop :=
  ∀ (p : Program) (e : Env) (R : Room) (s : State) (m : MethodId) (args : Array Value) (below : List Frame) (meth : Method) (c : Code) (Q : State → Prop), mj_C G Y Ex p e R s m args below meth c Q →
  ∀ (H : Heap) (locs : List Loc) (cells slots : Nat) (ls : Array Slot), mj_W G μ H → (∀ q ∈ locs, G.2.2.2.size ≤ q.base) → mj_nc μ ≤ N ∧ mj_ns μ ≤ S → cells + (N - mj_nc μ) ≤ R.cells → slots + (S - mj_ns μ) ≤ R.slots → lv_has ls Y.2.2.1 lv →
  W p G.1 e R s m args below meth c H locs cells slots Q (F0 m pc ls st)
/-- a method's contract at one memory and one row of arguments -/
def mj_M (G : mj_G) (y : MethodName) (Y : mj_Y) (as : List Value) (N S : Nat) (μ : mj_MM) (Ex : Option Value → mj_MM → Prop) : Prop :=
  (mj_nc μ ≤ N ∧ mj_ns μ ≤ S) ∧ Met G.1 y (Cond.code y Y.2.1 Y.2.2.1 Y.2.2.2.2.2.1 :: md_Ts) ({ frames := Y.2.2.2.1, cells := N - mj_nc μ, slots := S - mj_ns μ, locals := Y.2.2.2.2.1 }) (va_Pc as (fun U => mj_W G μ U.heap ∧ mj_K G U)) (fun _ _ o t => ∃ (v : Option Value) (μ' : mj_MM), o = .returned v ∧ (Ex v μ' ∧ mj_nc μ' = N ∧ mj_ns μ' = S) ∧ mj_W G μ' t.heap) (N - mj_nc μ) (S - mj_ns μ) (fun q => G.2.2.2.size ≤ q)
def mj_XV (P : mj_MM → Prop) : Option Value → mj_MM → Prop := fun v μ => v = none ∧ P μ
def mj_XI (P : Int32 → mj_MM → Prop) : Option Value → mj_MM → Prop := fun v μ => ∃ x : Int32, v = some (.int x) ∧ P x μ
def mj_XL (P : Int64 → mj_MM → Prop) : Option Value → mj_MM → Prop := fun v μ => ∃ x : Int64, v = some (.long x) ∧ P x μ
def mj_XR (P : Option Nat → mj_MM → Prop) : Option Value → mj_MM → Prop := fun v μ => ∃ x : Option Nat, v = some (va_rf x) ∧ P x μ
section MJ
variable {G : mj_G} {Y : mj_Y} {Ex : Option Value → mj_MM → Prop} {N S pc : Nat} {lv : List (Nat × Value)} {st : List Value} {μ : mj_MM}
theorem mj_of {y : MethodName} {as : List Value} (hp : plainName y.cls = true) (ho : y.cls = Y.1) (hi : (Y.2.2.2.2.2.2 = true → y.name = "<init>")) (hn : (lg_sl as).length ≤ Y.2.2.1) (hlv : lv_args 0 as = lv) (hb : mj_nc μ ≤ N ∧ mj_ns μ ≤ S)
    (kk : mj_J G Y (fun v μ' => Ex v μ' ∧ mj_nc μ' = N ∧ mj_ns μ' = S) N S 0 lv [] μ) : mj_M G y Y as N S μ Ex := by
  refine ⟨hb, ?_⟩
  refine Met.ofW (cc := Y.2.1) (maxL := Y.2.2.1) (ret := Y.2.2.2.2.2.1) hp rfl ?_
  intro p e s m args below meth c s₁ B hml hv
  obtain ⟨rfl, hw, hK⟩ := hv
  rw [lg_entry_eq]
  have hlocks := B.notSynchronized
  have hr := B.returns
  refine kk p e _ s m _ below meth c _ ⟨B.exec, B.bytes, hml, by rw [← ho]; exact findClass_of_methodNamed B.named, fun w h => atoms_spec B.pre w (List.mem_cons_of_mem _ h), hK, Nat.le_refl _, Nat.le_refl _, fun h => ((name_of_methodNamed B.named B.method).1).trans (hi h), ?_⟩ s.heap [] 0 0 _ hw (fun q h => by cases h) hb (by simp [headSpec]) (by simp [headSpec]) (hlv ▸ lv_entry as hn)
  intro H locs cells slots pc ls v μ' hw' hL hc hs hE hret
  refine W.widen (k := N - mj_nc μ) (n := S - mj_ns μ) hc hs ?_
  rcases hret with ⟨rfl, h1, h2⟩ | ⟨x, ty, rfl, h1, h2, h3⟩ | ⟨x, rfl, h1, h2⟩ | ⟨r, ty, rfl, h1, h2, h3⟩
  · exact W.vret B.exec B.bytes (hr.trans h1) (fun t ht _ => ⟨none, μ', rfl, hE, by rw [ht]; exact hw'⟩) hL h2
  · exact W.zret B.exec B.bytes (hr.trans h1) h2 (fun t ht _ => ⟨some (.int x), μ', rfl, hE, by rw [ht]; exact hw'⟩) hL h3
  · exact W.lret B.exec B.bytes (hr.trans h1) (fun t ht _ => ⟨some (.long x), μ', rfl, hE, by rw [ht]; exact hw'⟩) hL h2
  · exact W.aret B.exec B.bytes (hr.trans h1) h2 (by cases r with | none => exact Or.inl rfl | some a => exact Or.inr ⟨a, rfl⟩) (fun t ht _ => ⟨some (va_rf r), μ', rfl, hE, by rw [ht]; exact hw'⟩) hL h3
theorem mj_M.weaken {y : MethodName} {as : List Value} {Ex' : Option Value → mj_MM → Prop} (h : mj_M G y Y as N S μ Ex) (hE : ∀ v μ', Ex v μ' → mj_nc μ' = N → mj_ns μ' = S → Ex' v μ') : mj_M G y Y as N S μ Ex' := by
  refine ⟨h.1, ?_⟩
  intro p e h1 h2 h3 s m args below h4 h5 h6 h7
  obtain ⟨k, o, q1, q2, q3, ⟨v, μ', r1, r2, r3⟩, q5⟩ := h.2 p e h1 h2 h3 s m args below h4 h5 h6 h7
  exact ⟨k, o, q1, q2, q3, ⟨v, μ', r1, ⟨hE _ _ r2.1 r2.2.1 r2.2.2, r2.2⟩, r3⟩, q5⟩
theorem mj_lvs {lv' : List (Nat × Value)} (ks : List Nat) (hk : lv_pick lv ks = lv') (kk : mj_J G Y Ex N S pc lv' st μ) : mj_J G Y Ex N S pc lv st μ := by
  intro p e R s m args below meth c Q C H locs cells slots ls hw hL hb hc hs hl
  exact kk p e R s m args below meth c Q C H locs cells slots ls hw hL hb hc hs (lv_sub hl ks hk)
theorem mj_Exw {Ex' : Option Value → mj_MM → Prop} (hE : ∀ v μ', Ex' v μ' → Ex v μ') (kk : mj_J G Y Ex' N S pc lv st μ) : mj_J G Y Ex N S pc lv st μ := by
  intro p e R s m args below meth c Q C H locs cells slots ls hw hL hb hc hs hl
  exact kk p e R s m args below meth c Q ⟨C.1, C.2.1, C.2.2.1, C.2.2.2.1, C.2.2.2.2.1, C.2.2.2.2.2.1, C.2.2.2.2.2.2.1, C.2.2.2.2.2.2.2.1, C.2.2.2.2.2.2.2.2.1, fun H locs cells slots pc ls v μ a1 a2 a3 a4 a5 a6 => C.2.2.2.2.2.2.2.2.2 H locs cells slots pc ls v μ a1 a2 a3 a4 (hE v μ a5) a6⟩ H locs cells slots ls hw hL hb hc hs hl
theorem mj_iadd {x y : Int32} (hdg : decode Y.2.1 pc = .ok (.iadd, 1)) (kk : mj_J G Y Ex N S (pc + 1) lv (.int (x + y) :: st) μ) : mj_J G Y Ex N S pc lv (.int y :: .int x :: st) μ := by
  intro p e R s m args below meth c Q C H locs cells slots ls hw hL hb hc hs hl
  exact lv_iadd C.1 C.2.1 hdg (kk p e R s m args below meth c Q C H locs cells slots ls hw hL hb hc hs hl)
theorem mj_isub {x y : Int32} (hdg : decode Y.2.1 pc = .ok (.isub, 1)) (kk : mj_J G Y Ex N S (pc + 1) lv (.int (x - y) :: st) μ) : mj_J G Y Ex N S pc lv (.int y :: .int x :: st) μ := by
  intro p e R s m args below meth c Q C H locs cells slots ls hw hL hb hc hs hl
  exact lv_isub C.1 C.2.1 hdg (kk p e R s m args below meth c Q C H locs cells slots ls hw hL hb hc hs hl)
theorem mj_imul {x y : Int32} (hdg : decode Y.2.1 pc = .ok (.imul, 1)) (kk : mj_J G Y Ex N S (pc + 1) lv (.int (x * y) :: st) μ) : mj_J G Y Ex N S pc lv (.int y :: .int x :: st) μ := by
  intro p e R s m args below meth c Q C H locs cells slots ls hw hL hb hc hs hl
  exact lv_imul C.1 C.2.1 hdg (kk p e R s m args below meth c Q C H locs cells slots ls hw hL hb hc hs hl)
theorem mj_iand {x y : Int32} (hdg : decode Y.2.1 pc = .ok (.iand, 1)) (kk : mj_J G Y Ex N S (pc + 1) lv (.int (x &&& y) :: st) μ) : mj_J G Y Ex N S pc lv (.int y :: .int x :: st) μ := by
  intro p e R s m args below meth c Q C H locs cells slots ls hw hL hb hc hs hl
  exact lv_iand C.1 C.2.1 hdg (kk p e R s m args below meth c Q C H locs cells slots ls hw hL hb hc hs hl)
theorem mj_ior {x y : Int32} (hdg : decode Y.2.1 pc = .ok (.ior, 1)) (kk : mj_J G Y Ex N S (pc + 1) lv (.int (x ||| y) :: st) μ) : mj_J G Y Ex N S pc lv (.int y :: .int x :: st) μ := by
  intro p e R s m args below meth c Q C H locs cells slots ls hw hL hb hc hs hl
  exact lv_ior C.1 C.2.1 hdg (kk p e R s m args below meth c Q C H locs cells slots ls hw hL hb hc hs hl)
theorem mj_ixor {x y : Int32} (hdg : decode Y.2.1 pc = .ok (.ixor, 1)) (kk : mj_J G Y Ex N S (pc + 1) lv (.int (x ^^^ y) :: st) μ) : mj_J G Y Ex N S pc lv (.int y :: .int x :: st) μ := by
  intro p e R s m args below meth c Q C H locs cells slots ls hw hL hb hc hs hl
  exact lv_ixor C.1 C.2.1 hdg (kk p e R s m args below meth c Q C H locs cells slots ls hw hL hb hc hs hl)
theorem mj_ladd {x y : Int64} (hdg : decode Y.2.1 pc = .ok (.ladd, 1)) (kk : mj_J G Y Ex N S (pc + 1) lv (.long (x + y) :: st) μ) : mj_J G Y Ex N S pc lv (.long y :: .long x :: st) μ := by
  intro p e R s m args below meth c Q C H locs cells slots ls hw hL hb hc hs hl
  exact lv_ladd C.1 C.2.1 hdg (kk p e R s m args below meth c Q C H locs cells slots ls hw hL hb hc hs hl)
theorem mj_lsub {x y : Int64} (hdg : decode Y.2.1 pc = .ok (.lsub, 1)) (kk : mj_J G Y Ex N S (pc + 1) lv (.long (x - y) :: st) μ) : mj_J G Y Ex N S pc lv (.long y :: .long x :: st) μ := by
  intro p e R s m args below meth c Q C H locs cells slots ls hw hL hb hc hs hl
  exact lv_lsub C.1 C.2.1 hdg (kk p e R s m args below meth c Q C H locs cells slots ls hw hL hb hc hs hl)
theorem mj_lmul {x y : Int64} (hdg : decode Y.2.1 pc = .ok (.lmul, 1)) (kk : mj_J G Y Ex N S (pc + 1) lv (.long (x * y) :: st) μ) : mj_J G Y Ex N S pc lv (.long y :: .long x :: st) μ := by
  intro p e R s m args below meth c Q C H locs cells slots ls hw hL hb hc hs hl
  exact lv_lmul C.1 C.2.1 hdg (kk p e R s m args below meth c Q C H locs cells slots ls hw hL hb hc hs hl)
theorem mj_land {x y : Int64} (hdg : decode Y.2.1 pc = .ok (.land, 1)) (kk : mj_J G Y Ex N S (pc + 1) lv (.long (x &&& y) :: st) μ) : mj_J G Y Ex N S pc lv (.long y :: .long x :: st) μ := by
  intro p e R s m args below meth c Q C H locs cells slots ls hw hL hb hc hs hl
  exact lv_land C.1 C.2.1 hdg (kk p e R s m args below meth c Q C H locs cells slots ls hw hL hb hc hs hl)
theorem mj_lor {x y : Int64} (hdg : decode Y.2.1 pc = .ok (.lor, 1)) (kk : mj_J G Y Ex N S (pc + 1) lv (.long (x ||| y) :: st) μ) : mj_J G Y Ex N S pc lv (.long y :: .long x :: st) μ := by
  intro p e R s m args below meth c Q C H locs cells slots ls hw hL hb hc hs hl
  exact lv_lor C.1 C.2.1 hdg (kk p e R s m args below meth c Q C H locs cells slots ls hw hL hb hc hs hl)
theorem mj_lxor {x y : Int64} (hdg : decode Y.2.1 pc = .ok (.lxor, 1)) (kk : mj_J G Y Ex N S (pc + 1) lv (.long (x ^^^ y) :: st) μ) : mj_J G Y Ex N S pc lv (.long y :: .long x :: st) μ := by
  intro p e R s m args below meth c Q C H locs cells slots ls hw hL hb hc hs hl
  exact lv_lxor C.1 C.2.1 hdg (kk p e R s m args below meth c Q C H locs cells slots ls hw hL hb hc hs hl)
theorem mj_idiv {x y : Int32} (hdg : decode Y.2.1 pc = .ok (.idiv, 1)) (hy : ¬ y = 0) (kk : mj_J G Y Ex N S (pc + 1) lv (.int (x / y) :: st) μ) : mj_J G Y Ex N S pc lv (.int y :: .int x :: st) μ := by
  intro p e R s m args below meth c Q C H locs cells slots ls hw hL hb hc hs hl
  exact lv_idiv C.1 C.2.1 hdg hy (kk p e R s m args below meth c Q C H locs cells slots ls hw hL hb hc hs hl)
theorem mj_irem {x y : Int32} (hdg : decode Y.2.1 pc = .ok (.irem, 1)) (hy : ¬ y = 0) (kk : mj_J G Y Ex N S (pc + 1) lv (.int (x - x / y * y) :: st) μ) : mj_J G Y Ex N S pc lv (.int y :: .int x :: st) μ := by
  intro p e R s m args below meth c Q C H locs cells slots ls hw hL hb hc hs hl
  exact lv_irem C.1 C.2.1 hdg hy (kk p e R s m args below meth c Q C H locs cells slots ls hw hL hb hc hs hl)
theorem mj_ldiv {x y : Int64} (hdg : decode Y.2.1 pc = .ok (.ldiv, 1)) (hy : ¬ y = 0) (kk : mj_J G Y Ex N S (pc + 1) lv (.long (x / y) :: st) μ) : mj_J G Y Ex N S pc lv (.long y :: .long x :: st) μ := by
  intro p e R s m args below meth c Q C H locs cells slots ls hw hL hb hc hs hl
  exact lv_ldiv C.1 C.2.1 hdg hy (kk p e R s m args below meth c Q C H locs cells slots ls hw hL hb hc hs hl)
theorem mj_lrem {x y : Int64} (hdg : decode Y.2.1 pc = .ok (.lrem, 1)) (hy : ¬ y = 0) (kk : mj_J G Y Ex N S (pc + 1) lv (.long (x - x / y * y) :: st) μ) : mj_J G Y Ex N S pc lv (.long y :: .long x :: st) μ := by
  intro p e R s m args below meth c Q C H locs cells slots ls hw hL hb hc hs hl
  exact lv_lrem C.1 C.2.1 hdg hy (kk p e R s m args below meth c Q C H locs cells slots ls hw hL hb hc hs hl)
theorem mj_ineg {x : Int32} (hdg : decode Y.2.1 pc = .ok (.ineg, 1)) (kk : mj_J G Y Ex N S (pc + 1) lv (.int (-x) :: st) μ) : mj_J G Y Ex N S pc lv (.int x :: st) μ := by
  intro p e R s m args below meth c Q C H locs cells slots ls hw hL hb hc hs hl
  exact lv_ineg C.1 C.2.1 hdg (kk p e R s m args below meth c Q C H locs cells slots ls hw hL hb hc hs hl)
theorem mj_lneg {x : Int64} (hdg : decode Y.2.1 pc = .ok (.lneg, 1)) (kk : mj_J G Y Ex N S (pc + 1) lv (.long (-x) :: st) μ) : mj_J G Y Ex N S pc lv (.long x :: st) μ := by
  intro p e R s m args below meth c Q C H locs cells slots ls hw hL hb hc hs hl
  exact lv_lneg C.1 C.2.1 hdg (kk p e R s m args below meth c Q C H locs cells slots ls hw hL hb hc hs hl)
theorem mj_i2l {x : Int32} (hdg : decode Y.2.1 pc = .ok (.i2l, 1)) (kk : mj_J G Y Ex N S (pc + 1) lv (.long (x.toInt64) :: st) μ) : mj_J G Y Ex N S pc lv (.int x :: st) μ := by
  intro p e R s m args below meth c Q C H locs cells slots ls hw hL hb hc hs hl
  exact lv_i2l C.1 C.2.1 hdg rfl (kk p e R s m args below meth c Q C H locs cells slots ls hw hL hb hc hs hl)
theorem mj_l2i {x : Int64} (hdg : decode Y.2.1 pc = .ok (.l2i, 1)) (kk : mj_J G Y Ex N S (pc + 1) lv (.int (x.toInt32) :: st) μ) : mj_J G Y Ex N S pc lv (.long x :: st) μ := by
  intro p e R s m args below meth c Q C H locs cells slots ls hw hL hb hc hs hl
  exact lv_l2i C.1 C.2.1 hdg rfl (kk p e R s m args below meth c Q C H locs cells slots ls hw hL hb hc hs hl)
theorem mj_i2s {x : Int32} (hdg : decode Y.2.1 pc = .ok (.i2s, 1)) (kk : mj_J G Y Ex N S (pc + 1) lv (.int x.toInt16.toInt32 :: st) μ) : mj_J G Y Ex N S pc lv (.int x :: st) μ := by
  intro p e R s m args below meth c Q C H locs cells slots ls hw hL hb hc hs hl
  exact lv_i2s C.1 C.2.1 hdg rfl (kk p e R s m args below meth c Q C H locs cells slots ls hw hL hb hc hs hl)
theorem mj_ishl {x y : Int32} (hdg : decode Y.2.1 pc = .ok (.ishl, 1)) (kk : mj_J G Y Ex N S (pc + 1) lv (.int (x <<< (y &&& 31)) :: st) μ) : mj_J G Y Ex N S pc lv (.int y :: .int x :: st) μ := by
  intro p e R s m args below meth c Q C H locs cells slots ls hw hL hb hc hs hl
  exact lv_ishl C.1 C.2.1 hdg (kk p e R s m args below meth c Q C H locs cells slots ls hw hL hb hc hs hl)
theorem mj_ishr {x y : Int32} (hdg : decode Y.2.1 pc = .ok (.ishr, 1)) (kk : mj_J G Y Ex N S (pc + 1) lv (.int (x >>> (y &&& 31)) :: st) μ) : mj_J G Y Ex N S pc lv (.int y :: .int x :: st) μ := by
  intro p e R s m args below meth c Q C H locs cells slots ls hw hL hb hc hs hl
  exact lv_ishr C.1 C.2.1 hdg (kk p e R s m args below meth c Q C H locs cells slots ls hw hL hb hc hs hl)
theorem mj_lshl {x : Int64} {y : Int32} (hdg : decode Y.2.1 pc = .ok (.lshl, 1)) (kk : mj_J G Y Ex N S (pc + 1) lv (.long (x <<< (y.toInt64 &&& 63)) :: st) μ) : mj_J G Y Ex N S pc lv (.int y :: .long x :: st) μ := by
  intro p e R s m args below meth c Q C H locs cells slots ls hw hL hb hc hs hl
  exact lv_lshl C.1 C.2.1 hdg rfl (kk p e R s m args below meth c Q C H locs cells slots ls hw hL hb hc hs hl)
theorem mj_lshr {x : Int64} {y : Int32} (hdg : decode Y.2.1 pc = .ok (.lshr, 1)) (kk : mj_J G Y Ex N S (pc + 1) lv (.long (x >>> (y.toInt64 &&& 63)) :: st) μ) : mj_J G Y Ex N S pc lv (.int y :: .long x :: st) μ := by
  intro p e R s m args below meth c Q C H locs cells slots ls hw hL hb hc hs hl
  exact lv_lshr C.1 C.2.1 hdg rfl (kk p e R s m args below meth c Q C H locs cells slots ls hw hL hb hc hs hl)
theorem mj_lcmp {x y : Int64} (hdg : decode Y.2.1 pc = .ok (.lcmp, 1)) (kk : mj_J G Y Ex N S (pc + 1) lv (.int (lg_cmp x y) :: st) μ) : mj_J G Y Ex N S pc lv (.long y :: .long x :: st) μ := by
  intro p e R s m args below meth c Q C H locs cells slots ls hw hL hb hc hs hl
  exact W.lcmp C.1 C.2.1 hdg (kk p e R s m args below meth c Q C H locs cells slots ls hw hL hb hc hs hl)
theorem mj_iconst {n : Int} {v : Int32} (hdg : decode Y.2.1 pc = .ok (.iconst n, 1)) (hv : Int32.ofInt n = v) (kk : mj_J G Y Ex N S (pc + 1) lv (.int v :: st) μ) : mj_J G Y Ex N S pc lv st μ := by
  intro p e R s m args below meth c Q C H locs cells slots ls hw hL hb hc hs hl
  exact lv_iconst C.1 C.2.1 hdg hv (kk p e R s m args below meth c Q C H locs cells slots ls hw hL hb hc hs hl)
theorem mj_bipush {n : Int} {v : Int32} (hdg : decode Y.2.1 pc = .ok (.bipush n, 2)) (hv : (Int8.ofInt n).toInt32 = v) (kk : mj_J G Y Ex N S (pc + 2) lv (.int v :: st) μ) : mj_J G Y Ex N S pc lv st μ := by
  intro p e R s m args below meth c Q C H locs cells slots ls hw hL hb hc hs hl
  exact lv_bipush C.1 C.2.1 hdg hv (kk p e R s m args below meth c Q C H locs cells slots ls hw hL hb hc hs hl)
theorem mj_sipush {n : Int} {v : Int32} (hdg : decode Y.2.1 pc = .ok (.sipush n, 3)) (hv : (Int16.ofInt n).toInt32 = v) (kk : mj_J G Y Ex N S (pc + 3) lv (.int v :: st) μ) : mj_J G Y Ex N S pc lv st μ := by
  intro p e R s m args below meth c Q C H locs cells slots ls hw hL hb hc hs hl
  exact lv_sipush C.1 C.2.1 hdg hv (kk p e R s m args below meth c Q C H locs cells slots ls hw hL hb hc hs hl)
theorem mj_lconst {n : Fin 2} {v : Int64} (hdg : decode Y.2.1 pc = .ok (.lconst n, 1)) (hv : Int64.ofNat (n : Nat) = v) (kk : mj_J G Y Ex N S (pc + 1) lv (.long v :: st) μ) : mj_J G Y Ex N S pc lv st μ := by
  intro p e R s m args below meth c Q C H locs cells slots ls hw hL hb hc hs hl
  exact lv_lconst C.1 C.2.1 hdg hv (kk p e R s m args below meth c Q C H locs cells slots ls hw hL hb hc hs hl)
theorem mj_null (hdg : decode Y.2.1 pc = .ok (.aconst_null, 1)) (kk : mj_J G Y Ex N S (pc + 1) lv (va_rf none :: st) μ) : mj_J G Y Ex N S pc lv st μ := by
  intro p e R s m args below meth c Q C H locs cells slots ls hw hL hb hc hs hl
  exact lv_null C.1 C.2.1 hdg (kk p e R s m args below meth c Q C H locs cells slots ls hw hL hb hc hs hl)
theorem mj_ldc {index : Nat} {v : Int32} (hw0 : Cond.constant Y.1 index v ∈ md_Ts) (hdg : decode Y.2.1 pc = .ok (.ldc index, 2)) (kk : mj_J G Y Ex N S (pc + 2) lv (.int v :: st) μ) : mj_J G Y Ex N S pc lv st μ := by
  intro p e R s m args below meth c Q C H locs cells slots ls hw hL hb hc hs hl
  exact lv_ldc C.1 C.2.1 C.2.2.2.1 (C.2.2.2.2.1 _ hw0) hdg (kk p e R s m args below meth c Q C H locs cells slots ls hw hL hb hc hs hl)
theorem mj_ldcw {index : Nat} {v : Int32} (hw0 : Cond.constant Y.1 index v ∈ md_Ts) (hdg : decode Y.2.1 pc = .ok (.ldc_w index, 3)) (kk : mj_J G Y Ex N S (pc + 3) lv (.int v :: st) μ) : mj_J G Y Ex N S pc lv st μ := by
  intro p e R s m args below meth c Q C H locs cells slots ls hw hL hb hc hs hl
  exact lv_ldcw C.1 C.2.1 C.2.2.2.1 (C.2.2.2.2.1 _ hw0) hdg (kk p e R s m args below meth c Q C H locs cells slots ls hw hL hb hc hs hl)
theorem mj_ldc2 {index : Nat} {v : Int64} (hw0 : Cond.constantLong Y.1 index v ∈ md_Ts) (hdg : decode Y.2.1 pc = .ok (.ldc2_w index, 3)) (kk : mj_J G Y Ex N S (pc + 3) lv (.long v :: st) μ) : mj_J G Y Ex N S pc lv st μ := by
  intro p e R s m args below meth c Q C H locs cells slots ls hw hL hb hc hs hl
  exact lv_ldc2 C.1 C.2.1 C.2.2.2.1 (C.2.2.2.2.1 _ hw0) hdg (kk p e R s m args below meth c Q C H locs cells slots ls hw hL hb hc hs hl)
theorem mj_rfc (r : Option Nat) : (va_rf r).category = 1 := by cases r <;> rfl
theorem mj_dup {va : Value} (hdg : decode Y.2.1 pc = .ok (.dup, 1)) (hva : va.category = 1) (kk : mj_J G Y Ex N S (pc + 1) lv (va :: va :: st) μ) : mj_J G Y Ex N S pc lv (va :: st) μ := by
  intro p e R s m args below meth c Q C H locs cells slots ls hw hL hb hc hs hl
  exact lv_dup C.1 C.2.1 hdg hva (kk p e R s m args below meth c Q C H locs cells slots ls hw hL hb hc hs hl)
theorem mj_pop {va : Value} (hdg : decode Y.2.1 pc = .ok (.pop, 1)) (hva : va.category = 1) (kk : mj_J G Y Ex N S (pc + 1) lv st μ) : mj_J G Y Ex N S pc lv (va :: st) μ := by
  intro p e R s m args below meth c Q C H locs cells slots ls hw hL hb hc hs hl
  exact lv_pop C.1 C.2.1 hdg hva (kk p e R s m args below meth c Q C H locs cells slots ls hw hL hb hc hs hl)
theorem mj_pop2 {va : Value} (hdg : decode Y.2.1 pc = .ok (.pop2, 1)) (hva : va.category = 2) (kk : mj_J G Y Ex N S (pc + 1) lv st μ) : mj_J G Y Ex N S pc lv (va :: st) μ := by
  intro p e R s m args below meth c Q C H locs cells slots ls hw hL hb hc hs hl
  exact lv_pop2_2 C.1 C.2.1 hdg hva (kk p e R s m args below meth c Q C H locs cells slots ls hw hL hb hc hs hl)
theorem mj_dup_x1 {va vb : Value} (hdg : decode Y.2.1 pc = .ok (.dup_x1, 1)) (hva : va.category = 1) (hvb : vb.category = 1) (kk : mj_J G Y Ex N S (pc + 1) lv (va :: vb :: va :: st) μ) : mj_J G Y Ex N S pc lv (va :: vb :: st) μ := by
  intro p e R s m args below meth c Q C H locs cells slots ls hw hL hb hc hs hl
  exact lv_dup_x1 C.1 C.2.1 hdg hva hvb (kk p e R s m args below meth c Q C H locs cells slots ls hw hL hb hc hs hl)
theorem mj_dup_x2 {va vb vd : Value} (hdg : decode Y.2.1 pc = .ok (.dup_x2, 1)) (hva : va.category = 1) (hvb : vb.category = 1) (hvd : vd.category = 1) (kk : mj_J G Y Ex N S (pc + 1) lv (va :: vb :: vd :: va :: st) μ) : mj_J G Y Ex N S pc lv (va :: vb :: vd :: st) μ := by
  intro p e R s m args below meth c Q C H locs cells slots ls hw hL hb hc hs hl
  exact lv_dup_x2 C.1 C.2.1 hdg hva hvb hvd (kk p e R s m args below meth c Q C H locs cells slots ls hw hL hb hc hs hl)
theorem mj_dup2 {va vb : Value} (hdg : decode Y.2.1 pc = .ok (.dup2, 1)) (hva : va.category = 1) (hvb : vb.category = 1) (kk : mj_J G Y Ex N S (pc + 1) lv (va :: vb :: va :: vb :: st) μ) : mj_J G Y Ex N S pc lv (va :: vb :: st) μ := by
  intro p e R s m args below meth c Q C H locs cells slots ls hw hL hb hc hs hl
  exact lv_dup2_11 C.1 C.2.1 hdg hva hvb (kk p e R s m args below meth c Q C H locs cells slots ls hw hL hb hc hs hl)
theorem mj_iload_n {k : Fin 4} {x : Int32} (j : Nat) (hdg : decode Y.2.1 pc = .ok (.iload_n k, 1)) (hj : lv[j]? = some ((k : Nat), .int x)) (kk : mj_J G Y Ex N S (pc + 1) lv (.int x :: st) μ) : mj_J G Y Ex N S pc lv st μ := by
  intro p e R s m args below meth c Q C H locs cells slots ls hw hL hb hc hs hl
  exact lv_iload_n C.1 C.2.1 hdg rfl (lv_at hl j hj) (kk p e R s m args below meth c Q C H locs cells slots ls hw hL hb hc hs hl)
theorem mj_iload {i : Nat} {x : Int32} (j : Nat) (hdg : decode Y.2.1 pc = .ok (.iload i, 2)) (hj : lv[j]? = some (i, .int x)) (kk : mj_J G Y Ex N S (pc + 2) lv (.int x :: st) μ) : mj_J G Y Ex N S pc lv st μ := by
  intro p e R s m args below meth c Q C H locs cells slots ls hw hL hb hc hs hl
  exact lv_iload C.1 C.2.1 hdg (lv_at hl j hj) (kk p e R s m args below meth c Q C H locs cells slots ls hw hL hb hc hs hl)
theorem mj_lload_n {k : Fin 4} {x : Int64} (j : Nat) (hdg : decode Y.2.1 pc = .ok (.lload_n k, 1)) (hj : lv[j]? = some ((k : Nat), .long x)) (kk : mj_J G Y Ex N S (pc + 1) lv (.long x :: st) μ) : mj_J G Y Ex N S pc lv st μ := by
  intro p e R s m args below meth c Q C H locs cells slots ls hw hL hb hc hs hl
  exact lv_lload_n C.1 C.2.1 hdg rfl (lv_at hl j hj) (kk p e R s m args below meth c Q C H locs cells slots ls hw hL hb hc hs hl)
theorem mj_lload {i : Nat} {x : Int64} (j : Nat) (hdg : decode Y.2.1 pc = .ok (.lload i, 2)) (hj : lv[j]? = some (i, .long x)) (kk : mj_J G Y Ex N S (pc + 2) lv (.long x :: st) μ) : mj_J G Y Ex N S pc lv st μ := by
  intro p e R s m args below meth c Q C H locs cells slots ls hw hL hb hc hs hl
  exact lv_lload C.1 C.2.1 hdg (lv_at hl j hj) (kk p e R s m args below meth c Q C H locs cells slots ls hw hL hb hc hs hl)
theorem mj_aload_n {k : Fin 4} {r : Option Nat} (j : Nat) (hdg : decode Y.2.1 pc = .ok (.aload_n k, 1)) (hj : lv[j]? = some ((k : Nat), va_rf r)) (kk : mj_J G Y Ex N S (pc + 1) lv (va_rf r :: st) μ) : mj_J G Y Ex N S pc lv st μ := by
  intro p e R s m args below meth c Q C H locs cells slots ls hw hL hb hc hs hl
  cases r with
  | none => exact lv_aload_nN C.1 C.2.1 hdg rfl (lv_at hl j hj) (kk p e R s m args below meth c Q C H locs cells slots ls hw hL hb hc hs hl)
  | some a => exact lv_aload_n C.1 C.2.1 hdg rfl (lv_at hl j hj) (kk p e R s m args below meth c Q C H locs cells slots ls hw hL hb hc hs hl)
theorem mj_aload {i : Nat} {r : Option Nat} (j : Nat) (hdg : decode Y.2.1 pc = .ok (.aload i, 2)) (hj : lv[j]? = some (i, va_rf r)) (kk : mj_J G Y Ex N S (pc + 2) lv (va_rf r :: st) μ) : mj_J G Y Ex N S pc lv st μ := by
  intro p e R s m args below meth c Q C H locs cells slots ls hw hL hb hc hs hl
  cases r with
  | none => exact lv_aloadN C.1 C.2.1 hdg (lv_at hl j hj) (kk p e R s m args below meth c Q C H locs cells slots ls hw hL hb hc hs hl)
  | some a => exact lv_aload C.1 C.2.1 hdg (lv_at hl j hj) (kk p e R s m args below meth c Q C H locs cells slots ls hw hL hb hc hs hl)
theorem mj_istore_n {k : Fin 4} {x : Int32} {lv' : List (Nat × Value)} (hdg : decode Y.2.1 pc = .ok (.istore_n k, 1)) (hn : (k : Nat) < Y.2.2.1) (hv : ((k : Nat), Value.int x) :: lv.filter (fun q => !(q.1 == (k : Nat)) && !(q.1 + 1 == (k : Nat) && q.2.category == 2)) = lv') (kk : mj_J G Y Ex N S (pc + 1) lv' st μ) : mj_J G Y Ex N S pc lv (.int x :: st) μ := by
  intro p e R s m args below meth c Q C H locs cells slots ls hw hL hb hc hs hl
  exact lv_istore_n C.1 C.2.1 hdg rfl hl hn hv (fun ls2 hl2 => kk p e R s m args below meth c Q C H locs cells slots ls2 hw hL hb hc hs hl2)
theorem mj_istore {i : Nat} {x : Int32} {lv' : List (Nat × Value)} (hdg : decode Y.2.1 pc = .ok (.istore i, 2)) (hn : i < Y.2.2.1) (hv : (i, Value.int x) :: lv.filter (fun q => !(q.1 == i) && !(q.1 + 1 == i && q.2.category == 2)) = lv') (kk : mj_J G Y Ex N S (pc + 2) lv' st μ) : mj_J G Y Ex N S pc lv (.int x :: st) μ := by
  intro p e R s m args below meth c Q C H locs cells slots ls hw hL hb hc hs hl
  exact lv_istore C.1 C.2.1 hdg hl hn hv (fun ls2 hl2 => kk p e R s m args below meth c Q C H locs cells slots ls2 hw hL hb hc hs hl2)
theorem mj_lstore_n {k : Fin 4} {x : Int64} {lv' : List (Nat × Value)} (hdg : decode Y.2.1 pc = .ok (.lstore_n k, 1)) (hn : (k : Nat) + 1 < Y.2.2.1) (hv : ((k : Nat), Value.long x) :: lv.filter (fun q => !(q.1 == (k : Nat)) && (!(q.1 == (k : Nat) + 1) && !(q.1 + 1 == (k : Nat) && q.2.category == 2))) = lv') (kk : mj_J G Y Ex N S (pc + 1) lv' st μ) : mj_J G Y Ex N S pc lv (.long x :: st) μ := by
  intro p e R s m args below meth c Q C H locs cells slots ls hw hL hb hc hs hl
  exact lv_lstore_n C.1 C.2.1 hdg rfl hl hn hv (fun ls2 hl2 => kk p e R s m args below meth c Q C H locs cells slots ls2 hw hL hb hc hs hl2)
theorem mj_lstore {i : Nat} {x : Int64} {lv' : List (Nat × Value)} (hdg : decode Y.2.1 pc = .ok (.lstore i, 2)) (hn : i + 1 < Y.2.2.1) (hv : (i, Value.long x) :: lv.filter (fun q => !(q.1 == i) && (!(q.1 == i + 1) && !(q.1 + 1 == i && q.2.category == 2))) = lv') (kk : mj_J G Y Ex N S (pc + 2) lv' st μ) : mj_J G Y Ex N S pc lv (.long x :: st) μ := by
  intro p e R s m args below meth c Q C H locs cells slots ls hw hL hb hc hs hl
  exact lv_lstore C.1 C.2.1 hdg hl hn hv (fun ls2 hl2 => kk p e R s m args below meth c Q C H locs cells slots ls2 hw hL hb hc hs hl2)
theorem mj_astore_n {k : Fin 4} {r : Option Nat} {lv' : List (Nat × Value)} (hdg : decode Y.2.1 pc = .ok (.astore_n k, 1)) (hn : (k : Nat) < Y.2.2.1) (hv : ((k : Nat), va_rf r) :: lv.filter (fun q => !(q.1 == (k : Nat)) && !(q.1 + 1 == (k : Nat) && q.2.category == 2)) = lv') (kk : mj_J G Y Ex N S (pc + 1) lv' st μ) : mj_J G Y Ex N S pc lv (va_rf r :: st) μ := by
  intro p e R s m args below meth c Q C H locs cells slots ls hw hL hb hc hs hl
  cases r with
  | none => exact lv_astore_nN C.1 C.2.1 hdg rfl hl hn hv (fun ls2 hl2 => kk p e R s m args below meth c Q C H locs cells slots ls2 hw hL hb hc hs hl2)
  | some a => exact lv_astore_n C.1 C.2.1 hdg rfl hl hn hv (fun ls2 hl2 => kk p e R s m args below meth c Q C H locs cells slots ls2 hw hL hb hc hs hl2)
theorem mj_astore {i : Nat} {r : Option Nat} {lv' : List (Nat × Value)} (hdg : decode Y.2.1 pc = .ok (.astore i, 2)) (hn : i < Y.2.2.1) (hv : (i, va_rf r) :: lv.filter (fun q => !(q.1 == i) && !(q.1 + 1 == i && q.2.category == 2)) = lv') (kk : mj_J G Y Ex N S (pc + 2) lv' st μ) : mj_J G Y Ex N S pc lv (va_rf r :: st) μ := by
  intro p e R s m args below meth c Q C H locs cells slots ls hw hL hb hc hs hl
  cases r with
  | none => exact lv_astoreN C.1 C.2.1 hdg hl hn hv (fun ls2 hl2 => kk p e R s m args below meth c Q C H locs cells slots ls2 hw hL hb hc hs hl2)
  | some a => exact lv_astore C.1 C.2.1 hdg hl hn hv (fun ls2 hl2 => kk p e R s m args below meth c Q C H locs cells slots ls2 hw hL hb hc hs hl2)
theorem mj_iinc {i j : Nat} {n : Int} {x v : Int32} {lv' : List (Nat × Value)} (hdg : decode Y.2.1 pc = .ok (.iinc i n, 3)) (hj : lv[j]? = some (i, .int x)) (he : x + Int32.ofInt n = v) (hn : i < Y.2.2.1) (hv : (i, Value.int v) :: lv.filter (fun q => !(q.1 == i) && !(q.1 + 1 == i && q.2.category == 2)) = lv') (kk : mj_J G Y Ex N S (pc + 3) lv' st μ) : mj_J G Y Ex N S pc lv st μ := by
  intro p e R s m args below meth c Q C H locs cells slots ls hw hL hb hc hs hl
  exact lv_iinc C.1 C.2.1 hdg hl hj he hn hv (fun ls2 hl2 => kk p e R s m args below meth c Q C H locs cells slots ls2 hw hL hb hc hs hl2)
theorem mj_goto {off : Int} {tgt : Nat} (hdg : decode Y.2.1 pc = .ok (.goto off, 3)) (ht : (pc : Int) + off = (tgt : Int)) (kk : mj_J G Y Ex N S tgt lv st μ) : mj_J G Y Ex N S pc lv st μ := by
  intro p e R s m args below meth c Q C H locs cells slots ls hw hL hb hc hs hl
  exact lv_goto C.1 C.2.1 hdg ht (kk p e R s m args below meth c Q C H locs cells slots ls hw hL hb hc hs hl)
theorem mj_if_eq {x : Int32} {off : Int} {tgt : Nat} (hdg : decode Y.2.1 pc = .ok (.ifCond .eq off, 3)) (ht : (pc : Int) + off = (tgt : Int)) (kt : x = 0 → mj_J G Y Ex N S tgt lv st μ) (kf : ¬ x = 0 → mj_J G Y Ex N S (pc + 3) lv st μ) : mj_J G Y Ex N S pc lv (.int x :: st) μ := by
  intro p e R s m args below meth c Q C H locs cells slots ls hw hL hb hc hs hl
  exact lv_if_eq C.1 C.2.1 hdg ht (fun h => kt h p e R s m args below meth c Q C H locs cells slots ls hw hL hb hc hs hl) (fun h => kf h p e R s m args below meth c Q C H locs cells slots ls hw hL hb hc hs hl)
theorem mj_if_ne {x : Int32} {off : Int} {tgt : Nat} (hdg : decode Y.2.1 pc = .ok (.ifCond .ne off, 3)) (ht : (pc : Int) + off = (tgt : Int)) (kt : ¬ x = 0 → mj_J G Y Ex N S tgt lv st μ) (kf : x = 0 → mj_J G Y Ex N S (pc + 3) lv st μ) : mj_J G Y Ex N S pc lv (.int x :: st) μ := by
  intro p e R s m args below meth c Q C H locs cells slots ls hw hL hb hc hs hl
  exact lv_if_ne C.1 C.2.1 hdg ht (fun h => kt h p e R s m args below meth c Q C H locs cells slots ls hw hL hb hc hs hl) (fun h => kf h p e R s m args below meth c Q C H locs cells slots ls hw hL hb hc hs hl)
theorem mj_if_lt {x : Int32} {off : Int} {tgt : Nat} (hdg : decode Y.2.1 pc = .ok (.ifCond .lt off, 3)) (ht : (pc : Int) + off = (tgt : Int)) (kt : x < 0 → mj_J G Y Ex N S tgt lv st μ) (kf : ¬ x < 0 → mj_J G Y Ex N S (pc + 3) lv st μ) : mj_J G Y Ex N S pc lv (.int x :: st) μ := by
  intro p e R s m args below meth c Q C H locs cells slots ls hw hL hb hc hs hl
  exact lv_if_lt C.1 C.2.1 hdg ht (fun h => kt h p e R s m args below meth c Q C H locs cells slots ls hw hL hb hc hs hl) (fun h => kf h p e R s m args below meth c Q C H locs cells slots ls hw hL hb hc hs hl)
theorem mj_if_ge {x : Int32} {off : Int} {tgt : Nat} (hdg : decode Y.2.1 pc = .ok (.ifCond .ge off, 3)) (ht : (pc : Int) + off = (tgt : Int)) (kt : 0 ≤ x → mj_J G Y Ex N S tgt lv st μ) (kf : ¬ 0 ≤ x → mj_J G Y Ex N S (pc + 3) lv st μ) : mj_J G Y Ex N S pc lv (.int x :: st) μ := by
  intro p e R s m args below meth c Q C H locs cells slots ls hw hL hb hc hs hl
  exact lv_if_ge C.1 C.2.1 hdg ht (fun h => kt h p e R s m args below meth c Q C H locs cells slots ls hw hL hb hc hs hl) (fun h => kf h p e R s m args below meth c Q C H locs cells slots ls hw hL hb hc hs hl)
theorem mj_if_gt {x : Int32} {off : Int} {tgt : Nat} (hdg : decode Y.2.1 pc = .ok (.ifCond .gt off, 3)) (ht : (pc : Int) + off = (tgt : Int)) (kt : 0 < x → mj_J G Y Ex N S tgt lv st μ) (kf : ¬ 0 < x → mj_J G Y Ex N S (pc + 3) lv st μ) : mj_J G Y Ex N S pc lv (.int x :: st) μ := by
  intro p e R s m args below meth c Q C H locs cells slots ls hw hL hb hc hs hl
  exact lv_if_gt C.1 C.2.1 hdg ht (fun h => kt h p e R s m args below meth c Q C H locs cells slots ls hw hL hb hc hs hl) (fun h => kf h p e R s m args below meth c Q C H locs cells slots ls hw hL hb hc hs hl)
theorem mj_if_le {x : Int32} {off : Int} {tgt : Nat} (hdg : decode Y.2.1 pc = .ok (.ifCond .le off, 3)) (ht : (pc : Int) + off = (tgt : Int)) (kt : x ≤ 0 → mj_J G Y Ex N S tgt lv st μ) (kf : ¬ x ≤ 0 → mj_J G Y Ex N S (pc + 3) lv st μ) : mj_J G Y Ex N S pc lv (.int x :: st) μ := by
  intro p e R s m args below meth c Q C H locs cells slots ls hw hL hb hc hs hl
  exact lv_if_le C.1 C.2.1 hdg ht (fun h => kt h p e R s m args below meth c Q C H locs cells slots ls hw hL hb hc hs hl) (fun h => kf h p e R s m args below meth c Q C H locs cells slots ls hw hL hb hc hs hl)
theorem mj_icmp_eq {x y : Int32} {off : Int} {tgt : Nat} (hdg : decode Y.2.1 pc = .ok (.if_icmp .eq off, 3)) (ht : (pc : Int) + off = (tgt : Int)) (kt : x = y → mj_J G Y Ex N S tgt lv st μ) (kf : ¬ x = y → mj_J G Y Ex N S (pc + 3) lv st μ) : mj_J G Y Ex N S pc lv (.int y :: .int x :: st) μ := by
  intro p e R s m args below meth c Q C H locs cells slots ls hw hL hb hc hs hl
  exact lv_icmp_eq C.1 C.2.1 hdg ht (fun h => kt h p e R s m args below meth c Q C H locs cells slots ls hw hL hb hc hs hl) (fun h => kf h p e R s m args below meth c Q C H locs cells slots ls hw hL hb hc hs hl)
theorem mj_icmp_ne {x y : Int32} {off : Int} {tgt : Nat} (hdg : decode Y.2.1 pc = .ok (.if_icmp .ne off, 3)) (ht : (pc : Int) + off = (tgt : Int)) (kt : ¬ x = y → mj_J G Y Ex N S tgt lv st μ) (kf : x = y → mj_J G Y Ex N S (pc + 3) lv st μ) : mj_J G Y Ex N S pc lv (.int y :: .int x :: st) μ := by
  intro p e R s m args below meth c Q C H locs cells slots ls hw hL hb hc hs hl
  exact lv_icmp_ne C.1 C.2.1 hdg ht (fun h => kt h p e R s m args below meth c Q C H locs cells slots ls hw hL hb hc hs hl) (fun h => kf h p e R s m args below meth c Q C H locs cells slots ls hw hL hb hc hs hl)
theorem mj_icmp_lt {x y : Int32} {off : Int} {tgt : Nat} (hdg : decode Y.2.1 pc = .ok (.if_icmp .lt off, 3)) (ht : (pc : Int) + off = (tgt : Int)) (kt : x < y → mj_J G Y Ex N S tgt lv st μ) (kf : ¬ x < y → mj_J G Y Ex N S (pc + 3) lv st μ) : mj_J G Y Ex N S pc lv (.int y :: .int x :: st) μ := by
  intro p e R s m args below meth c Q C H locs cells slots ls hw hL hb hc hs hl
  exact lv_icmp_lt C.1 C.2.1 hdg ht (fun h => kt h p e R s m args below meth c Q C H locs cells slots ls hw hL hb hc hs hl) (fun h => kf h p e R s m args below meth c Q C H locs cells slots ls hw hL hb hc hs hl)
theorem mj_icmp_ge {x y : Int32} {off : Int} {tgt : Nat} (hdg : decode Y.2.1 pc = .ok (.if_icmp .ge off, 3)) (ht : (pc : Int) + off = (tgt : Int)) (kt : y ≤ x → mj_J G Y Ex N S tgt lv st μ) (kf : ¬ y ≤ x → mj_J G Y Ex N S (pc + 3) lv st μ) : mj_J G Y Ex N S pc lv (.int y :: .int x :: st) μ := by
  intro p e R s m args below meth c Q C H locs cells slots ls hw hL hb hc hs hl
  exact lv_icmp_ge C.1 C.2.1 hdg ht (fun h => kt h p e R s m args below meth c Q C H locs cells slots ls hw hL hb hc hs hl) (fun h => kf h p e R s m args below meth c Q C H locs cells slots ls hw hL hb hc hs hl)
theorem mj_icmp_gt {x y : Int32} {off : Int} {tgt : Nat} (hdg : decode Y.2.1 pc = .ok (.if_icmp .gt off, 3)) (ht : (pc : Int) + off = (tgt : Int)) (kt : y < x → mj_J G Y Ex N S tgt lv st μ) (kf : ¬ y < x → mj_J G Y Ex N S (pc + 3) lv st μ) : mj_J G Y Ex N S pc lv (.int y :: .int x :: st) μ := by
  intro p e R s m args below meth c Q C H locs cells slots ls hw hL hb hc hs hl
  exact lv_icmp_gt C.1 C.2.1 hdg ht (fun h => kt h p e R s m args below meth c Q C H locs cells slots ls hw hL hb hc hs hl) (fun h => kf h p e R s m args below meth c Q C H locs cells slots ls hw hL hb hc hs hl)
theorem mj_icmp_le {x y : Int32} {off : Int} {tgt : Nat} (hdg : decode Y.2.1 pc = .ok (.if_icmp .le off, 3)) (ht : (pc : Int) + off = (tgt : Int)) (kt : x ≤ y → mj_J G Y Ex N S tgt lv st μ) (kf : ¬ x ≤ y → mj_J G Y Ex N S (pc + 3) lv st μ) : mj_J G Y Ex N S pc lv (.int y :: .int x :: st) μ := by
  intro p e R s m args below meth c Q C H locs cells slots ls hw hL hb hc hs hl
  exact lv_icmp_le C.1 C.2.1 hdg ht (fun h => kt h p e R s m args below meth c Q C H locs cells slots ls hw hL hb hc hs hl) (fun h => kf h p e R s m args below meth c Q C H locs cells slots ls hw hL hb hc hs hl)
theorem mj_acmp_eq {rx ry : Option Nat} {off : Int} {tgt : Nat} (hdg : decode Y.2.1 pc = .ok (.if_acmp .eq off, 3)) (ht : (pc : Int) + off = (tgt : Int)) (kt : rx = ry → mj_J G Y Ex N S tgt lv st μ) (kf : ¬ rx = ry → mj_J G Y Ex N S (pc + 3) lv st μ) : mj_J G Y Ex N S pc lv (va_rf ry :: va_rf rx :: st) μ := by
  intro p e R s m args below meth c Q C H locs cells slots ls hw hL hb hc hs hl
  exact lv_acmp_eq C.1 C.2.1 hdg ht (fun h => kt h p e R s m args below meth c Q C H locs cells slots ls hw hL hb hc hs hl) (fun h => kf h p e R s m args below meth c Q C H locs cells slots ls hw hL hb hc hs hl)
theorem mj_acmp_ne {rx ry : Option Nat} {off : Int} {tgt : Nat} (hdg : decode Y.2.1 pc = .ok (.if_acmp .ne off, 3)) (ht : (pc : Int) + off = (tgt : Int)) (kt : ¬ rx = ry → mj_J G Y Ex N S tgt lv st μ) (kf : rx = ry → mj_J G Y Ex N S (pc + 3) lv st μ) : mj_J G Y Ex N S pc lv (va_rf ry :: va_rf rx :: st) μ := by
  intro p e R s m args below meth c Q C H locs cells slots ls hw hL hb hc hs hl
  exact lv_acmp_ne C.1 C.2.1 hdg ht (fun h => kt h p e R s m args below meth c Q C H locs cells slots ls hw hL hb hc hs hl) (fun h => kf h p e R s m args below meth c Q C H locs cells slots ls hw hL hb hc hs hl)
theorem mj_ifnull {r : Option Nat} {off : Int} {tgt : Nat} (hdg : decode Y.2.1 pc = .ok (.ifnull off, 3)) (ht : (pc : Int) + off = (tgt : Int)) (kt : r = none → mj_J G Y Ex N S tgt lv st μ) (kf : ∀ b : Nat, r = some b → mj_J G Y Ex N S (pc + 3) lv st μ) : mj_J G Y Ex N S pc lv (va_rf r :: st) μ := by
  intro p e R s m args below meth c Q C H locs cells slots ls hw hL hb hc hs hl
  cases r with
  | none => exact lv_ifnullN C.1 C.2.1 hdg ht (kt rfl p e R s m args below meth c Q C H locs cells slots ls hw hL hb hc hs hl)
  | some a => exact lv_ifnull C.1 C.2.1 hdg (kf a rfl p e R s m args below meth c Q C H locs cells slots ls hw hL hb hc hs hl)
theorem mj_ifnonnull {r : Option Nat} {off : Int} {tgt : Nat} (hdg : decode Y.2.1 pc = .ok (.ifnonnull off, 3)) (ht : (pc : Int) + off = (tgt : Int)) (kt : ∀ b : Nat, r = some b → mj_J G Y Ex N S tgt lv st μ) (kf : r = none → mj_J G Y Ex N S (pc + 3) lv st μ) : mj_J G Y Ex N S pc lv (va_rf r :: st) μ := by
  intro p e R s m args below meth c Q C H locs cells slots ls hw hL hb hc hs hl
  cases r with
  | none => exact lv_ifnonnullN C.1 C.2.1 hdg (kf rfl p e R s m args below meth c Q C H locs cells slots ls hw hL hb hc hs hl)
  | some a => exact lv_ifnonnull C.1 C.2.1 hdg ht (kt a rfl p e R s m args below meth c Q C H locs cells slots ls hw hL hb hc hs hl)
theorem mj_tableIn {dflt lo hi : Int} {offs : Array Int} {len : Nat} {x : Int32} {off : Int} {tgt : Nat} (hdg : decode Y.2.1 pc = .ok (.tableswitch dflt lo hi offs, len)) (h1 : ¬ x.toInt < lo) (h2 : ¬ hi < x.toInt) (ho : offs[(x.toInt - lo).toNat]? = some off) (ht : (pc : Int) + off = (tgt : Int)) (kk : mj_J G Y Ex N S tgt lv st μ) : mj_J G Y Ex N S pc lv (.int x :: st) μ := by
  intro p e R s m args below meth c Q C H locs cells slots ls hw hL hb hc hs hl
  exact lv_tableIn C.1 C.2.1 hdg h1 h2 ho ht (kk p e R s m args below meth c Q C H locs cells slots ls hw hL hb hc hs hl)
theorem mj_tableOut {dflt lo hi : Int} {offs : Array Int} {len : Nat} {x : Int32} {tgt : Nat} (hdg : decode Y.2.1 pc = .ok (.tableswitch dflt lo hi offs, len)) (h : x.toInt < lo ∨ hi < x.toInt) (ht : (pc : Int) + dflt = (tgt : Int)) (kk : mj_J G Y Ex N S tgt lv st μ) : mj_J G Y Ex N S pc lv (.int x :: st) μ := by
  intro p e R s m args below meth c Q C H locs cells slots ls hw hL hb hc hs hl
  exact lv_tableOut C.1 C.2.1 hdg h ht (kk p e R s m args below meth c Q C H locs cells slots ls hw hL hb hc hs hl)
theorem mj_return (hdg : decode Y.2.1 pc = .ok (.return_, 1)) (hr : Y.2.2.2.2.2.1 = none) (he : Ex none μ) : mj_J G Y Ex N S pc lv [] μ := by
  intro p e R s m args below meth c Q C H locs cells slots ls hw hL hb hc hs hl
  exact C.2.2.2.2.2.2.2.2.2 H locs cells slots pc ls none μ hw hL (by omega) (by omega) he (Or.inl ⟨rfl, hr, hdg⟩)
theorem mj_ireturn {x : Int32} {ty : FieldType} (hdg : decode Y.2.1 pc = .ok (.ireturn, 1)) (hr : Y.2.2.2.2.2.1 = some ty) (hn : narrow ty (.int x) = .int x) (he : Ex (some (.int x)) μ) : mj_J G Y Ex N S pc lv [.int x] μ := by
  intro p e R s m args below meth c Q C H locs cells slots ls hw hL hb hc hs hl
  exact C.2.2.2.2.2.2.2.2.2 H locs cells slots pc ls (some (.int x)) μ hw hL (by omega) (by omega) he (Or.inr (Or.inl ⟨x, ty, rfl, hr, hn, hdg⟩))
theorem mj_lreturn {x : Int64} (hdg : decode Y.2.1 pc = .ok (.lreturn, 1)) (hr : Y.2.2.2.2.2.1 = some .long) (he : Ex (some (.long x)) μ) : mj_J G Y Ex N S pc lv [.long x] μ := by
  intro p e R s m args below meth c Q C H locs cells slots ls hw hL hb hc hs hl
  exact C.2.2.2.2.2.2.2.2.2 H locs cells slots pc ls (some (.long x)) μ hw hL (by omega) (by omega) he (Or.inr (Or.inr (Or.inl ⟨x, rfl, hr, hdg⟩)))
theorem mj_areturn {r : Option Nat} {ty : FieldType} (hdg : decode Y.2.1 pc = .ok (.areturn, 1)) (hr : Y.2.2.2.2.2.1 = some ty) (hn : (∃ n, ty = .object n) ∨ ∃ t, ty = .array t) (he : Ex (some (va_rf r)) μ) : mj_J G Y Ex N S pc lv [va_rf r] μ := by
  intro p e R s m args below meth c Q C H locs cells slots ls hw hL hb hc hs hl
  exact C.2.2.2.2.2.2.2.2.2 H locs cells slots pc ls (some (va_rf r)) μ hw hL (by omega) (by omega) he (Or.inr (Or.inr (Or.inr ⟨r, ty, rfl, hr, hn, hdg⟩)))
end MJ
section MJB
variable {G : mj_G} {Y : mj_Y} {Ex : Option Value → mj_MM → Prop} {N S pc : Nat} {lv : List (Nat × Value)} {st : List Value} {μ : mj_MM}
/-- a class of the table: its place, its fields' types, their names apart, its words among the tables' -/
def mj_Cl (ci : Nat) (C : String) (T : u_T) (N : Nat) : Prop := ci < 500 ∧ md_cl[ci]? = some (C, T, N) ∧ (∀ k, k < N → parseFieldDescriptor (T k).2.2.1 = some (md_ty ci k)) ∧ (∀ a, a < N → ∀ b, b < N → a ≠ b → (T a).2.1 ≠ (T b).2.1) ∧ ∀ w ∈ u_ws C T N, w ∈ md_Ts
theorem mj_W.obj {H : Heap} {a ci : Nat} {C : String} {T : u_T} {NF : Nat} (hw : mj_W G μ H) (hc : mj_Cl ci C T NF) (ht : mj_t μ a = ci + 1) : t_OB a (G.2.1.1 ci) NF (G.2.1.2 ci) H (fun k => mj_val (md_ty ci k) μ a k) := by
  obtain ⟨r, h1, h2⟩ := hw.2.2.2.1 a ci hc.1 ht
  have hr : r = (C, T, NF) := Option.some.inj (h1.symm.trans hc.2.1)
  subst hr
  exact h2
theorem mj_getf {a ci index : Nat} {rr : Option Nat} {C : String} {T : u_T} {NF : Nat} {v : Value} (hrr : rr = some a) (hc : mj_Cl ci C T NF) (k : Nat) (hk : k < NF) (hlink : Cond.fieldLink Y.1 index (T k).1 (T k).2.1 (T k).2.2.1 ∈ md_Ts) (hdg : decode Y.2.1 pc = .ok (.getfield index, 3)) (ht : mj_t μ a = ci + 1) (hv : mj_val (md_ty ci k) μ a k = v)
    (kk : mj_J G Y Ex N S (pc + 3) lv (v :: st) μ) : mj_J G Y Ex N S pc lv (va_rf rr :: st) μ := by
  subst hrr
  intro p e R s m args below meth c Q C H locs cells slots ls hw hL hb hc' hs hl
  obtain ⟨cell, q1, q2, q3, q4⟩ := hw.obj hc ht
  obtain ⟨hS, hfc, kC, hkC, hkind⟩ := C.2.2.2.2.2.1.1.1 ci _ hc.2.1
  obtain ⟨cf, kf, fi, f, hi, hsl⟩ := hS k hk
  refine W.getf C.1 C.2.1 C.2.2.2.1 (C.2.2.2.2.1 _ hlink) hi (u_facts hfc hkC (u_lays C.2.2.2.2.1 hc.2.2.2.2 hk) hi).1 q1 (by rw [q3]; exact fun h => by cases h) (v := v) ?_ rfl rfl hdg (kk p e R s m args below meth c Q C H locs cells slots ls hw hL hb hc' hs hl)
  rw [hsl, q4 k hk]
  exact congrArg some hv
theorem mj_apart {s : State} {args : Array Value} {ci : Nat} {C : String} {T : u_T} {NF : Nat} (hts : ∀ w ∈ md_Ts, w.before args s = true) (hK : mj_K G s) (hc : mj_Cl ci C T NF) : ∀ x y, x < NF → y < NF → x ≠ y → (G.2.1.2 ci) x ≠ (G.2.1.2 ci) y :=
  va_apart (own := C) hts hc.2.2.2.2 (md_ty ci) hc.2.2.1 hc.2.2.2.1 hK.1 hc.2.1
/-- one object's cell has changed in one place -/
theorem mj_W.put {H H' : Heap} {μ' : mj_MM} {a ci k : Nat} {C : String} {T : u_T} {NF : Nat} {cell : Cell} {v : Value} (hw : mj_W G μ H) (hc : mj_Cl ci C T NF) (ht : mj_t μ a = ci + 1)
    (e1 : t_OB a (G.2.1.1 ci) NF (G.2.1.2 ci) H' (updV (fun j => mj_val (md_ty ci j) μ a j) k v)) (e2 : H'.size = H.size) (e3 : ∀ q, q ≠ a → H'[q]? = H[q]?) (h1 : ∀ b, mj_t μ' b = mj_t μ b)
    (h2 : ∀ j, j < NF → mj_val (md_ty ci j) μ' a j = updV (fun j => mj_val (md_ty ci j) μ a j) k v j) (h3 : ∀ (b : Nat) (ty : FieldType) (j : Nat), b ≠ a → mj_val ty μ' b j = mj_val ty μ b j) (h4 : ∀ (b : Nat) (ty : FieldType), b ≠ a → mj_arr ty μ' b = mj_arr ty μ b) : mj_W G μ' H' := by
  obtain ⟨w1, w2, w3, w4, w5⟩ := hw
  have ha : G.2.2.2.size ≤ a := (w3 a (by rw [ht]; omega)).1
  refine ⟨by rw [e2]; exact w1, fun q hq => by rw [e3 q (by omega)]; exact w2 q hq, fun b hb => by rw [e2]; exact w3 b (by rw [← h1]; exact hb), fun b cj hj hb => ?_, fun b t hb => ?_⟩
  · rw [h1] at hb
    by_cases hba : b = a
    · subst hba
      have hcj : cj = ci := by rw [ht] at hb; omega
      subst hcj
      exact ⟨_, hc.2.1, e1.to fun j hj => (h2 j hj).symm⟩
    · obtain ⟨r, g1, g2⟩ := w4 b cj hj hb
      exact ⟨r, g1, (g2.kept (e3 b hba)).to fun j _ => (h3 b _ j hba).symm⟩
  · rw [h1] at hb
    by_cases hba : b = a
    · subst hba
      have := hc.1
      rw [ht] at hb
      omega
    · obtain ⟨q, g1, g2⟩ := w5 b t hb
      exact ⟨q, g1, by rw [e3 b hba, h4 b _ hba]; exact g2⟩
/-- the machine's own store, any value -/
theorem mj_putv {a ci index : Nat} {C : String} {T : u_T} {NF : Nat} {v : Value} {μ' : mj_MM} (hc : mj_Cl ci C T NF) (k : Nat) (hk : k < NF) (hlink : Cond.fieldLink Y.1 index (T k).1 (T k).2.1 (T k).2.2.1 ∈ md_Ts) (hdg : decode Y.2.1 pc = .ok (.putfield index, 3))
    (hfin : (T k).2.2.2 = false ∨ ((T k).2.2.2 = true ∧ (T k).1 = Y.1 ∧ Y.2.2.2.2.2.2 = true)) (ht : mj_t μ a = ci + 1) (hn : narrow (md_ty ci k) v = v) (hfit : fits (md_ty ci k) v = true) (h1 : ∀ b, mj_t μ' b = mj_t μ b)
    (h2 : ∀ j, j < NF → mj_val (md_ty ci j) μ' a j = updV (fun j => mj_val (md_ty ci j) μ a j) k v j) (h3 : ∀ (b : Nat) (ty : FieldType) (j : Nat), b ≠ a → mj_val ty μ' b j = mj_val ty μ b j) (h4 : ∀ (b : Nat) (ty : FieldType), b ≠ a → mj_arr ty μ' b = mj_arr ty μ b) (h5 : mj_nc μ' = mj_nc μ) (h6 : mj_ns μ' = mj_ns μ)
    (kk : mj_J G Y Ex N S (pc + 3) lv st μ') : mj_J G Y Ex N S pc lv (v :: va_rf (some a) :: st) μ := by
  intro p e R s m args below meth c Q C H locs cells slots ls hw hL hb hc' hs hl
  have hap := mj_apart C.2.2.2.2.1 C.2.2.2.2.2.1 hc
  obtain ⟨cell, q1, q2, q3, q4⟩ := hw.obj hc ht
  obtain ⟨hS, hfc, kC, hkC, hkind⟩ := C.2.2.2.2.2.1.1.1 ci _ hc.2.1
  obtain ⟨cf, kf, fi, f, hi, hsl⟩ := hS k hk
  have hlay := C.2.2.2.2.1 _ (hc.2.2.2.2 _ (u_in_lay hk))
  have hst := (u_facts hfc hkC (u_lays C.2.2.2.2.1 hc.2.2.2.2 hk) hi).1
  have ha : G.2.2.2.size ≤ a := (hw.2.2.1 a (by rw [ht]; omega)).1
  have fin : ∀ H' : Heap, H'[a]? = some (cell.setSlot f.slot v) → H'.size = H.size → (∀ q, q ≠ a → H'[q]? = H[q]?) → W p G.1 e R s m args below meth c H' (locs ++ [⟨a, f.slot⟩]) cells slots Q (F0 m (pc + 3) ls st) := by
    intro H' e1 e2 e3
    rw [hsl] at e1
    exact kk p e R s m args below meth c Q C H' _ cells slots ls (hw.put (cell := cell) hc ht ⟨_, e1, q2, q3, t_set q4 hap hk v⟩ e2 e3 h1 h2 h3 h4) (t_lc hL ha) (by rw [h5, h6]; exact hb) (by rw [h5]; exact hc') (by rw [h6]; exact hs) hl
  unfold u_lay at hlay
  rcases hfin with hfin | ⟨hfin, hdecl, hin2⟩
  · rw [if_neg (by rw [hfin]; decide)] at hlay
    have h6 := u_store hfc hkC hkind hlay hi (hc.2.2.1 k hk) hn hfit
    exact W.putK C.1 C.2.1 (f := f) ⟨C.2.2.2.1, C.2.2.2.2.1 _ hlink, ⟨_, _, _, hi⟩, hst⟩ (by rw [q2]; exact h6) q1 q3 (by rw [hsl]; exact k2_hasslot (q4 k hk)) rfl rfl hdg fin
  · rw [if_pos hfin] at hlay
    have hcf : m.cls = cf := by
      obtain ⟨_, _, c', _, _, _, -, -, hf', -, -, -, hown2, -⟩ := Cond.laysFinal_spec hlay
      have e1 : c' = cf := by have := hi.symm.trans hf'; simp at this; exact this.1.symm
      rw [hdecl] at hown2
      rw [← e1]; exact Option.some.inj (C.2.2.2.1.symm.trans hown2)
    have h6 := u_fits hfc hkC hkind (Or.inr hlay) hi (hc.2.2.1 k hk) hn hfit
    exact W.putFinK C.1 C.2.1 C.2.2.2.1 (C.2.2.2.2.1 _ hlink) hi hst hcf (C.2.2.2.2.2.2.2.2.1 hin2) (by rw [q2]; exact h6) q1 q3 (by rw [hsl]; exact k2_hasslot (q4 k hk)) rfl rfl hdg fin
theorem mj_val_pI (ty : FieldType) (a k : Nat) (x : Int32) {b j : Nat} (h : b ≠ a) : mj_val ty (mj_pI μ a k x) b j = mj_val ty μ b j := by
  cases ty <;> simp [mj_val, mj_i, mj_r, mj_l, mj_pI, mj_u_apart _ x h]
theorem mj_arr_pI (ty : FieldType) (a k : Nat) (x : Int32) {b : Nat} (h : b ≠ a) : mj_arr ty (mj_pI μ a k x) b = mj_arr ty μ b := by
  have e : mj_i (mj_pI μ a k x) b = mj_i μ b := funext fun j => mj_u_apart _ x h
  cases ty <;> simp only [mj_arr] <;> first | rfl | (rw [e]; rfl)
theorem mj_val_pR (ty : FieldType) (a k : Nat) (x : Option Nat) {b j : Nat} (h : b ≠ a) : mj_val ty (mj_pR μ a k x) b j = mj_val ty μ b j := by
  cases ty <;> simp [mj_val, mj_i, mj_r, mj_l, mj_pR, mj_u_apart _ x h]
theorem mj_arr_pR (ty : FieldType) (a k : Nat) (x : Option Nat) {b : Nat} (h : b ≠ a) : mj_arr ty (mj_pR μ a k x) b = mj_arr ty μ b := by
  have e : mj_r (mj_pR μ a k x) b = mj_r μ b := funext fun j => mj_u_apart _ x h
  cases ty <;> simp only [mj_arr] <;> first | rfl | (rw [e]; rfl)
theorem mj_val_pL (ty : FieldType) (a k : Nat) (x : Int64) {b j : Nat} (h : b ≠ a) : mj_val ty (mj_pL μ a k x) b j = mj_val ty μ b j := by
  cases ty <;> simp [mj_val, mj_i, mj_r, mj_l, mj_pL, mj_u_apart _ x h]
theorem mj_arr_pL (ty : FieldType) (a k : Nat) (x : Int64) {b : Nat} (h : b ≠ a) : mj_arr ty (mj_pL μ a k x) b = mj_arr ty μ b := by
  have e : mj_l (mj_pL μ a k x) b = mj_l μ b := funext fun j => mj_u_apart _ x h
  cases ty <;> simp only [mj_arr] <;> first | rfl | (rw [e]; rfl)
def mj_isI : FieldType → Bool
  | .object _ => false
  | .array _ => false
  | .long => false
  | _ => true
def mj_isR : FieldType → Bool
  | .object _ => true
  | .array _ => true
  | _ => false
theorem mj_putI {a ci index : Nat} {rr : Option Nat} {C : String} {T : u_T} {NF : Nat} {x : Int32} (hrr : rr = some a) (hc : mj_Cl ci C T NF) (k : Nat) (hk : k < NF) (hty : mj_isI (md_ty ci k) = true) (hlink : Cond.fieldLink Y.1 index (T k).1 (T k).2.1 (T k).2.2.1 ∈ md_Ts) (hdg : decode Y.2.1 pc = .ok (.putfield index, 3))
    (hfin : (T k).2.2.2 = false ∨ ((T k).2.2.2 = true ∧ (T k).1 = Y.1 ∧ Y.2.2.2.2.2.2 = true)) (ht : mj_t μ a = ci + 1) (hn : narrow (md_ty ci k) (.int x) = .int x) (hfit : fits (md_ty ci k) (.int x) = true)
    (kk : mj_J G Y Ex N S (pc + 3) lv st (mj_pI μ a k x)) : mj_J G Y Ex N S pc lv (.int x :: va_rf rr :: st) μ := by
  subst hrr
  refine mj_putv (μ' := mj_pI μ a k x) hc k hk hlink hdg hfin ht hn hfit (fun b => rfl) (fun j hj => ?_) (fun b ty j hb => mj_val_pI ty a k x hb) (fun b ty hb => mj_arr_pI ty a k x hb) rfl rfl kk
  unfold updV
  by_cases hjk : j = k
  · subst hjk
    rw [if_pos rfl]
    generalize md_ty ci j = ty at hty ⊢
    cases ty <;> first | (exact absurd hty Bool.false_ne_true) | (simp [mj_val, mj_i, mj_pI, mj_u_self])
  · rw [if_neg hjk]
    show mj_val (md_ty ci j) (mj_pI μ a k x) a j = mj_val (md_ty ci j) μ a j
    generalize md_ty ci j = ty
    cases ty <;> simp [mj_val, mj_i, mj_r, mj_l, mj_pI, mj_u, hjk]
theorem mj_putR {a ci index : Nat} {rr : Option Nat} {C : String} {T : u_T} {NF : Nat} {x : Option Nat} (hrr : rr = some a) (hc : mj_Cl ci C T NF) (k : Nat) (hk : k < NF) (hty : mj_isR (md_ty ci k) = true) (hlink : Cond.fieldLink Y.1 index (T k).1 (T k).2.1 (T k).2.2.1 ∈ md_Ts) (hdg : decode Y.2.1 pc = .ok (.putfield index, 3))
    (hfin : (T k).2.2.2 = false ∨ ((T k).2.2.2 = true ∧ (T k).1 = Y.1 ∧ Y.2.2.2.2.2.2 = true)) (ht : mj_t μ a = ci + 1)
    (kk : mj_J G Y Ex N S (pc + 3) lv st (mj_pR μ a k x)) : mj_J G Y Ex N S pc lv (va_rf x :: va_rf rr :: st) μ := by
  subst hrr
  have hn : narrow (md_ty ci k) (va_rf x) = va_rf x := by
    generalize md_ty ci k = ty
    cases ty <;> cases x <;> rfl
  have hfit : fits (md_ty ci k) (va_rf x) = true := by
    generalize md_ty ci k = ty at hty ⊢
    cases ty <;> first | (exact absurd hty Bool.false_ne_true) | (cases x <;> rfl)
  refine mj_putv (μ' := mj_pR μ a k x) hc k hk hlink hdg hfin ht hn hfit (fun b => rfl) (fun j hj => ?_) (fun b ty j hb => mj_val_pR ty a k x hb) (fun b ty hb => mj_arr_pR ty a k x hb) rfl rfl kk
  unfold updV
  by_cases hjk : j = k
  · subst hjk
    rw [if_pos rfl]
    generalize md_ty ci j = ty at hty ⊢
    cases ty <;> first | (exact absurd hty Bool.false_ne_true) | (simp [mj_val, mj_r, mj_pR, mj_u_self])
  · rw [if_neg hjk]
    show mj_val (md_ty ci j) (mj_pR μ a k x) a j = mj_val (md_ty ci j) μ a j
    generalize md_ty ci j = ty
    cases ty <;> simp [mj_val, mj_i, mj_r, mj_l, mj_pR, mj_u, hjk]
theorem mj_putL {a ci index : Nat} {rr : Option Nat} {C : String} {T : u_T} {NF : Nat} {x : Int64} (hrr : rr = some a) (hc : mj_Cl ci C T NF) (k : Nat) (hk : k < NF) (hty : md_ty ci k = .long) (hlink : Cond.fieldLink Y.1 index (T k).1 (T k).2.1 (T k).2.2.1 ∈ md_Ts) (hdg : decode Y.2.1 pc = .ok (.putfield index, 3))
    (hfin : (T k).2.2.2 = false ∨ ((T k).2.2.2 = true ∧ (T k).1 = Y.1 ∧ Y.2.2.2.2.2.2 = true)) (ht : mj_t μ a = ci + 1)
    (kk : mj_J G Y Ex N S (pc + 3) lv st (mj_pL μ a k x)) : mj_J G Y Ex N S pc lv (.long x :: va_rf rr :: st) μ := by
  subst hrr
  refine mj_putv (μ' := mj_pL μ a k x) hc k hk hlink hdg hfin ht (by rw [hty]; rfl) (by rw [hty]; rfl) (fun b => rfl) (fun j hj => ?_) (fun b ty j hb => mj_val_pL ty a k x hb) (fun b ty hb => mj_arr_pL ty a k x hb) rfl rfl kk
  unfold updV
  by_cases hjk : j = k
  · subst hjk
    rw [if_pos rfl, hty]
    simp [mj_val, mj_l, mj_pL, mj_u_self]
  · rw [if_neg hjk]
    show mj_val (md_ty ci j) (mj_pL μ a k x) a j = mj_val (md_ty ci j) μ a j
    generalize md_ty ci j = ty
    cases ty <;> simp [mj_val, mj_i, mj_r, mj_l, mj_pL, mj_u, hjk]
/-- something new behind the heap's end -/
theorem mj_W.new {H H1 : Heap} {t n k0 : Nat} (hw : mj_W G μ H) (o1 : ∀ q, q < H.size → H1[q]? = H[q]?) (z1 : H1.size = H.size + 1)
    (hO : ∀ ci, ci < 500 → t = ci + 1 → ∃ r : vw_C, md_cl[ci]? = some r ∧ t_OB H.size (G.2.1.1 ci) r.2.2 (G.2.1.2 ci) H1 (fun k => mj_val (md_ty ci k) (mj_new μ H.size t n k0) H.size k))
    (hA : ∀ k, t = 1000 + k → ∃ ty : FieldType, md_at[k]? = some ty ∧ H1[H.size]? = some (vp_cell (G.2.2.1.1 k) (mj_arr ty (mj_new μ H.size t n k0) H.size))) : mj_W G (mj_new μ H.size t n k0) H1 := by
  obtain ⟨w1, w2, w3, w4, w5⟩ := hw
  have hv : ∀ (b : Nat) (ty : FieldType) (j : Nat), b ≠ H.size → mj_val ty (mj_new μ H.size t n k0) b j = mj_val ty μ b j := by
    intro b ty j hb
    cases ty <;> simp [mj_val, mj_i, mj_r, mj_l, mj_new, mj_w, hb]
  have ha : ∀ (b : Nat) (ty : FieldType), b ≠ H.size → mj_arr ty (mj_new μ H.size t n k0) b = mj_arr ty μ b := by
    intro b ty hb
    have e1 : mj_i (mj_new μ H.size t n k0) b = mj_i μ b := funext fun j => by simp [mj_i, mj_new, mj_w, hb]
    have e2 : mj_r (mj_new μ H.size t n k0) b = mj_r μ b := funext fun j => by simp [mj_r, mj_new, mj_w, hb]
    have e3 : mj_l (mj_new μ H.size t n k0) b = mj_l μ b := funext fun j => by simp [mj_l, mj_new, mj_w, hb]
    have e4 : mj_n (mj_new μ H.size t n k0) b = mj_n μ b := by simp [mj_n, mj_new, mj_w, hb]
    cases ty <;> simp [mj_arr, e1, e2, e3, e4]
  have hT : ∀ b, b ≠ H.size → mj_t (mj_new μ H.size t n k0) b = mj_t μ b := fun b hb => by simp [mj_t, mj_new, mj_w, hb]
  have hTs : mj_t (mj_new μ H.size t n k0) H.size = t := by simp [mj_t, mj_new, mj_w]
  refine ⟨by omega, fun q hq => by rw [o1 q (by omega)]; exact w2 q hq, fun b hb => ?_, fun b cj hj hb => ?_, fun b k hb => ?_⟩
  · by_cases h : b = H.size
    · subst h
      omega
    · rw [hT b h] at hb
      have := w3 b hb
      omega
  · by_cases h : b = H.size
    · subst h
      rw [hTs] at hb
      exact hO cj hj hb
    · rw [hT b h] at hb
      have hb2 := (w3 b (by rw [hb]; omega)).2
      obtain ⟨r, g1, g2⟩ := w4 b cj hj hb
      exact ⟨r, g1, (g2.kept (o1 b hb2)).to fun j _ => (hv b _ j h).symm⟩
  · by_cases h : b = H.size
    · subst h
      rw [hTs] at hb
      exact hA k hb
    · rw [hT b h] at hb
      have hb2 := (w3 b (by rw [hb]; omega)).2
      obtain ⟨q, g1, g2⟩ := w5 b k hb
      exact ⟨q, g1, by rw [o1 b hb2, ha b _ h]; exact g2⟩
theorem mj_W.free {H : Heap} (hw : mj_W G μ H) : mj_t μ H.size = 0 := by
  by_cases h : mj_t μ H.size = 0
  · exact h
  · have := (hw.2.2.1 _ h).2
    omega
theorem mj_val_new (ty : FieldType) (a t n k0 j : Nat) : mj_val ty (mj_new μ a t n k0) a j = mj_dv ty := by
  cases ty <;> simp [mj_val, mj_i, mj_r, mj_l, mj_new, mj_w, va_rf, mj_dv]
theorem mj_newO {ci index : Nat} {C : String} {T : u_T} {NF : Nat} (hc : mj_Cl ci C T NF) (hdef : ∀ k, k < NF → defaultValue (md_ty ci k) = mj_dv (md_ty ci k)) (hcl : Cond.classLink Y.1 index C ∈ md_Ts) (hinst : Cond.instantiable C NF ∈ md_Ts) (hini : Cond.initialized C ∈ md_Ts) (hdg : decode Y.2.1 pc = .ok (.new index, 3)) (h1 : mj_nc μ + 1 ≤ N) (h2 : mj_ns μ + NF ≤ S)
    (kk : ∀ a : Nat, mj_t μ a = 0 → mj_J G Y Ex N S (pc + 3) lv (va_rf (some a) :: st) (mj_new μ a (ci + 1) 0 NF)) : mj_J G Y Ex N S pc lv st μ := by
  intro p e R s m args below meth c Q C H locs cells slots ls hw hL hb hc' hs hl
  have hKn := C.2.2.2.2.2.1.1.1 ci _ hc.2.1
  obtain ⟨hb1, hb2⟩ := hb
  refine W.newcK C.1 C.2.1 C.2.2.2.1 (C.2.2.2.2.1 _ hcl) (C.2.2.2.2.1 _ hinst) (C.2.2.2.2.1 _ hini) rfl hdg (by omega) (by omega) hKn.2.1 rfl fun H1 kC hkC e1 z1 o1 => ?_
  refine kk H.size hw.free p e R s m args below meth c Q C H1 locs (cells + 1) (slots + NF) ls (hw.new o1 z1 (fun cj hj e => ?_) (fun k e => ?_)) hL ⟨h1, h2⟩ (by show cells + 1 + (N - (mj_nc μ + 1)) ≤ _; omega) (by show slots + NF + (S - (mj_ns μ + NF)) ≤ _; omega) hl
  · have hcj : cj = ci := by omega
    subst hcj
    exact ⟨_, hc.2.1, (u_born (md_ty cj) C.2.2.2.2.1 hc.2.2.2.2 hKn hkC e1 hc.2.2.1).to fun k hk => by rw [mj_val_new, hdef k hk]⟩
  · have := hc.1
    omega
theorem mj_tk {a b k t n k0 : Nat} (h : mj_t μ b = k) (hk : k ≠ 0) (hf : mj_t μ a = 0) : mj_t (mj_new μ a t n k0) b = k := by
  have hb : b ≠ a := fun e => hk (by rw [← h, e]; exact hf)
  simp only [mj_t, mj_new, mj_w, if_neg hb]
  exact h
theorem mj_tn {a t n k0 : Nat} : mj_t (mj_new μ a t n k0) a = t := by simp [mj_t, mj_new, mj_w]
end MJB
section MJC
variable {G : mj_G} {Y : mj_Y} {Ex : Option Value → mj_MM → Prop} {N S pc : Nat} {lv : List (Nat × Value)} {st : List Value} {μ : mj_MM}
theorem mj_good : ∀ w ∈ md_Ts, goodWord w = true := fun _ h => (List.mem_filter.mp h).2
/-- what every call wants of the tables, and of the room -/
def mj_CB (Y : mj_Y) (y : MethodName) (Yc : mj_Y) (index n : Nat) : Prop :=
  Cond.methodLink Y.1 index y ∈ md_Ts ∧ Cond.initialized y.cls ∈ md_Ts ∧ Cond.code y Yc.2.1 Yc.2.2.1 Yc.2.2.2.2.2.1 ∈ md_Ts ∧
  (y.cls ≠ "java/lang/invoke/MethodHandle" ∧ y.cls ≠ "java/lang/invoke/VarHandle" ∧ (parseMethodDescriptor y.desc).map (fun d => d.parameters.length) = some n) ∧ Yc.2.2.2.1 + 1 ≤ Y.2.2.2.1 ∧ 8 + (Yc.2.2.1 + 11) + Yc.2.2.2.2.1 ≤ Y.2.2.2.2.1
theorem mj_callB {y : MethodName} {Yc : mj_Y} {index n mc ms : Nat} {R : Room} {s : State} {args : Array Value} (hts : ∀ w ∈ md_Ts, w.before args s = true) (h : mj_CB Y y Yc index n) (hf : Y.2.2.2.1 ≤ R.frames) (hl : Y.2.2.2.2.1 ≤ R.locals) :
    CallB R s args Y.1 index y Yc.2.1 Yc.2.2.1 Yc.2.2.2.2.2.1 (Cond.code y Yc.2.1 Yc.2.2.1 Yc.2.2.2.2.2.1 :: md_Ts) ({ frames := Yc.2.2.2.1, cells := mc, slots := ms, locals := Yc.2.2.2.2.1 }) mc ms n := by
  obtain ⟨h1, h2, h3, h4, h5, h6⟩ := h
  refine callB_of (Ts := md_Ts) n hts (fun w hw => ?_) rfl rfl rfl (hts _ h2) (hts _ h1) h4 ⟨Nat.le_trans h5 hf, Nat.le_trans h6 hl⟩
  rcases List.mem_cons.mp hw with rfl | hw
  · exact ⟨h3, good_of_word (mj_good _ h3)⟩
  · exact ⟨hw, good_of_word (mj_good _ hw)⟩
theorem mj_blind {as : List Value} : FrameBlind (va_Pc as (fun U => mj_W G μ U.heap ∧ mj_K G U)) := fun a U g mk q => ⟨q.1, q.2.1, mj_K.same (u := U) (U := U.calling g mk a) rfl q.2.2⟩
/-- behind a call -/
theorem mj_after {p : Program} {e : Env} {R : Room} {s : State} {m : MethodId} {args : Array Value} {below : List Frame} {meth : Method} {c : Code} {Q : State → Prop} {H : Heap} {locs : List Loc} {cells slots N' S' : Nat} {ls : Array Slot} {st0 rest : List Value} {Ex' : Option Value → mj_MM → Prop} {a : Array Value}
    (C : mj_C G Y Ex p e R s m args below meth c Q) (hb0 : mj_nc μ ≤ N' ∧ mj_ns μ ≤ S') (hr : va_Run p G.1 e R s m args below meth c H locs cells slots (N' - mj_nc μ) (S' - mj_ns μ) (F0 m pc ls st0) rest ((fun (_ : Array Value) (_ : State) (o : Outcome) (t : State) => ∃ (v : Option Value) (μ' : mj_MM), o = .returned v ∧ (Ex' v μ' ∧ mj_nc μ' = N' ∧ mj_ns μ' = S') ∧ mj_W G μ' t.heap) a) (fun q => G.2.2.2.size ≤ q))
    (hL : ∀ q ∈ locs, G.2.2.2.size ≤ q.base) (hb : mj_nc μ ≤ N ∧ mj_ns μ ≤ S) (hc : cells + (N - mj_nc μ) ≤ R.cells) (hs : slots + (S - mj_ns μ) ≤ R.slots) (hl : lv_has ls Y.2.2.1 lv) (h1 : N' ≤ N ∧ S' ≤ S)
    (kk : ∀ (v : Option Value) (μ' : mj_MM), Ex' v μ' → mj_nc μ' = N' → mj_ns μ' = S' → mj_J G Y Ex N S (pc + 3) lv (v.toList ++ rest) μ') : W p G.1 e R s m args below meth c H locs cells slots Q (F0 m pc ls st0) := by
  intro T hT X
  obtain ⟨v, st₀, t, T', L, -, X', hLL, hh, -, ⟨v', μ', ho, ⟨hE, e1, e2⟩, hw'⟩, hgo⟩ := hr T hT X
  cases ho
  obtain ⟨t2, a2, b2⟩ := kk v μ' hE e1 e2 p e R s m args below meth c Q C T'.heap (locs ++ L) (cells + (N' - mj_nc μ)) (slots + (S' - mj_ns μ)) ls (by rw [hh]; exact hw') (t_lL hL hLL) (by rw [e1, e2]; exact h1) (by rw [e1]; omega) (by rw [e2]; omega) hl T' rfl X'
  exact ⟨t2, hgo t2 a2, b2⟩
theorem mj_callV {y : MethodName} {Yc : mj_Y} {As : List Value} {b ci index N' S' n : Nat} {Cn : String} {T : u_T} {NF : Nat} {rr : Option Nat} {Ex' : Option Value → mj_MM → Prop} (hrr : rr = some b) (hM : mj_M G y Yc (va_rf (some b) :: As) N' S' μ Ex') (hcl : mj_Cl ci Cn T NF) (ht : mj_t μ b = ci + 1) (hW : mj_CB Y y Yc index n) (hinst : Cond.instanceMethod y ∈ md_Ts) (hsel : Cond.selects Cn y y ∈ md_Ts) (hn : As.length = n) (hdg : decode Y.2.1 pc = .ok (.invokevirtual index, 3)) (hst : (st.map fun v => v.category).sum ≤ 8) (h1 : mj_nc μ ≤ N ∧ mj_ns μ ≤ S → N' ≤ N ∧ S' ≤ S)
    (kk : ∀ (v : Option Value) (μ' : mj_MM), Ex' v μ' → mj_nc μ' = N' → mj_ns μ' = S' → mj_J G Y Ex N S (pc + 3) lv (v.toList ++ st) μ') : mj_J G Y Ex N S pc lv (As.reverse ++ va_rf rr :: st) μ := by
  subst hrr
  intro p e R s m args below meth c Q C H locs cells slots ls hw hL hb hc hs hl
  refine mj_after (a := (va_rf (some b) :: As).toArray) C hM.1 (va_runV (As := As) (rest := st) (Ts := md_Ts) (nL := Y.2.2.1) ⟨C.1, C.2.1, C.2.2.1, C.2.2.2.1, C.2.2.2.2.1⟩ hM.2 ⟨mj_callB C.2.2.2.2.1 hW C.2.2.2.2.2.2.1 C.2.2.2.2.2.2.2.1, C.2.2.2.2.1 _ hinst, C.2.2.2.2.1 _ hsel⟩ ⟨mj_blind, ?_, fun U hU hWm => ⟨rfl, by rw [hU]; exact hw, mj_K.warm hWm C.2.2.2.2.2.1⟩⟩ rfl hn hl.1 rfl (lv_room hst) hdg ⟨by omega, by omega⟩) hL hb hc hs hl (h1 hb) kk
  obtain ⟨cell, q1, q2, q3, -⟩ := hw.obj hcl ht
  exact ⟨cell, q1, by rw [q3]; rfl, by rw [q2]; exact (C.2.2.2.2.2.1.1.1 ci _ hcl.2.1).2.1⟩
theorem mj_callI {y : MethodName} {Yc : mj_Y} {As : List Value} {b index N' S' n : Nat} {rr : Option Nat} {Ex' : Option Value → mj_MM → Prop} (hrr : rr = some b) (hM : mj_M G y Yc (va_rf (some b) :: As) N' S' μ Ex') (hW : mj_CB Y y Yc index n) (hret : Yc.2.2.2.2.2.1 = none) (hinit : y.name = "<init>") (hinst : Cond.instanceMethod y ∈ md_Ts) (hn : As.length = n) (hdg : decode Y.2.1 pc = .ok (.invokespecial index, 3)) (hst : (st.map fun v => v.category).sum ≤ 8) (h1 : mj_nc μ ≤ N ∧ mj_ns μ ≤ S → N' ≤ N ∧ S' ≤ S)
    (kk : ∀ (v : Option Value) (μ' : mj_MM), Ex' v μ' → mj_nc μ' = N' → mj_ns μ' = S' → mj_J G Y Ex N S (pc + 3) lv (v.toList ++ st) μ') : mj_J G Y Ex N S pc lv (As.reverse ++ va_rf rr :: st) μ := by
  subst hrr
  intro p e R s m args below meth c Q C H locs cells slots ls hw hL hb hc hs hl
  have hB := mj_callB (mc := N' - mj_nc μ) (ms := S' - mj_ns μ) C.2.2.2.2.1 hW C.2.2.2.2.2.2.1 C.2.2.2.2.2.2.2.1
  rw [hret] at hB
  obtain ⟨hb0, hM⟩ := hM
  rw [hret] at hM
  exact mj_after (a := (va_rf (some b) :: As).toArray) C hb0 (va_runI (As := As) (rest := st) (Ts := md_Ts) (nL := Y.2.2.1) ⟨C.1, C.2.1, C.2.2.1, C.2.2.2.1, C.2.2.2.2.1⟩ hM ⟨hB, hinit, C.2.2.2.2.1 _ hinst⟩ ⟨mj_blind, fun U hU hWm => ⟨rfl, by rw [hU]; exact hw, mj_K.warm hWm C.2.2.2.2.2.1⟩⟩ rfl hn hl.1 rfl (lv_room hst) hdg ⟨by omega, by omega⟩) hL hb hc hs hl (h1 hb) kk
theorem mj_callS {y : MethodName} {Yc : mj_Y} {As : List Value} {index N' S' n : Nat} {Ex' : Option Value → mj_MM → Prop} (hM : mj_M G y Yc As N' S' μ Ex') (hW : mj_CB Y y Yc index n) (hstat : Cond.static y ∈ md_Ts) (hn : As.length = n) (hdg : decode Y.2.1 pc = .ok (.invokestatic index, 3)) (hst : (st.map fun v => v.category).sum ≤ 8) (h1 : mj_nc μ ≤ N ∧ mj_ns μ ≤ S → N' ≤ N ∧ S' ≤ S)
    (kk : ∀ (v : Option Value) (μ' : mj_MM), Ex' v μ' → mj_nc μ' = N' → mj_ns μ' = S' → mj_J G Y Ex N S (pc + 3) lv (v.toList ++ st) μ') : mj_J G Y Ex N S pc lv (As.reverse ++ st) μ := by
  intro p e R s m args below meth c Q C H locs cells slots ls hw hL hb hc hs hl
  exact mj_after (a := As.toArray) C hM.1 (va_runS (As := As) (rest := st) (Ts := md_Ts) (nL := Y.2.2.1) ⟨C.1, C.2.1, C.2.2.1, C.2.2.2.1, C.2.2.2.2.1⟩ hM.2 ⟨mj_callB C.2.2.2.2.1 hW C.2.2.2.2.2.2.1 C.2.2.2.2.2.2.2.1, C.2.2.2.2.1 _ hstat⟩ ⟨mj_blind, fun U hU hWm => ⟨rfl, by rw [hU]; exact hw, mj_K.warm hWm C.2.2.2.2.2.1⟩⟩ rfl hn hl.1 rfl (lv_room hst) hdg ⟨by omega, by omega⟩) hL hb hc hs hl (h1 hb) kk
theorem mj_kV {P : mj_MM → Prop} {N' S' q : Nat} {l0 : List (Nat × Value)} {s0 : List Value} (kk : ∀ μ' : mj_MM, P μ' → mj_nc μ' = N' → mj_ns μ' = S' → mj_J G Y Ex N S q l0 s0 μ') : ∀ (v : Option Value) (μ' : mj_MM), mj_XV P v μ' → mj_nc μ' = N' → mj_ns μ' = S' → mj_J G Y Ex N S q l0 (v.toList ++ s0) μ' := by
  rintro v μ' ⟨rfl, h⟩ e1 e2
  exact kk μ' h e1 e2
theorem mj_kI {P : Int32 → mj_MM → Prop} {N' S' q : Nat} {l0 : List (Nat × Value)} {s0 : List Value} (kk : ∀ (x : Int32) (μ' : mj_MM), P x μ' → mj_nc μ' = N' → mj_ns μ' = S' → mj_J G Y Ex N S q l0 (.int x :: s0) μ') : ∀ (v : Option Value) (μ' : mj_MM), mj_XI P v μ' → mj_nc μ' = N' → mj_ns μ' = S' → mj_J G Y Ex N S q l0 (v.toList ++ s0) μ' := by
  rintro v μ' ⟨x, rfl, h⟩ e1 e2
  exact kk x μ' h e1 e2
theorem mj_kL {P : Int64 → mj_MM → Prop} {N' S' q : Nat} {l0 : List (Nat × Value)} {s0 : List Value} (kk : ∀ (x : Int64) (μ' : mj_MM), P x μ' → mj_nc μ' = N' → mj_ns μ' = S' → mj_J G Y Ex N S q l0 (.long x :: s0) μ') : ∀ (v : Option Value) (μ' : mj_MM), mj_XL P v μ' → mj_nc μ' = N' → mj_ns μ' = S' → mj_J G Y Ex N S q l0 (v.toList ++ s0) μ' := by
  rintro v μ' ⟨x, rfl, h⟩ e1 e2
  exact kk x μ' h e1 e2
theorem mj_kR {P : Option Nat → mj_MM → Prop} {N' S' q : Nat} {l0 : List (Nat × Value)} {s0 : List Value} (kk : ∀ (x : Option Nat) (μ' : mj_MM), P x μ' → mj_nc μ' = N' → mj_ns μ' = S' → mj_J G Y Ex N S q l0 (va_rf x :: s0) μ') : ∀ (v : Option Value) (μ' : mj_MM), mj_XR P v μ' → mj_nc μ' = N' → mj_ns μ' = S' → mj_J G Y Ex N S q l0 (v.toList ++ s0) μ' := by
  rintro v μ' ⟨x, rfl, h⟩ e1 e2
  exact kk x μ' h e1 e2
theorem mj_objInit {a idx : Nat} {rr : Option Nat} (hrr : rr = some a) (h1 : Cond.methodLink Y.1 idx Lib.objectInit ∈ md_Ts) (h2 : Cond.instanceMethod Lib.objectInit ∈ md_Ts) (h3 : Cond.code Lib.objectInit ⟨#[0xb1]⟩ 1 none ∈ md_Ts) (hdg : decode Y.2.1 pc = .ok (.invokespecial idx, 3)) (hf : 1 ≤ Y.2.2.2.1) (hlo : (st.map fun v => v.category).sum + 12 ≤ Y.2.2.2.2.1)
    (kk : mj_J G Y Ex N S (pc + 3) lv st μ) : mj_J G Y Ex N S pc lv (va_rf rr :: st) μ := by
  subst hrr
  intro p e R s m args below meth c Q C H locs cells slots ls hw hL hb hc hs hl
  exact W.objInit C.1 C.2.1 C.2.2.2.1 (C.2.2.2.2.1 _ h1) (C.2.2.2.2.1 _ h2) (C.2.2.2.2.1 _ h3) rfl (by rw [C.2.2.1]; exact hl.1) rfl hdg (Nat.le_trans hf C.2.2.2.2.2.2.1) (by have := C.2.2.2.2.2.2.2.1; show 2 * 0 + _ + 12 ≤ _; omega) (kk p e R s m args below meth c Q C H locs cells slots ls hw hL hb hc hs hl)
theorem mj_max {x y : Int32} {index : Nat} (h1 : Cond.methodLink Y.1 index Lib.Math.max.name ∈ md_Ts) (h2 : Cond.static Lib.Math.max.name ∈ md_Ts) (h3 : Cond.initialized "java/lang/Math" ∈ md_Ts) (h4 : Cond.code Lib.Math.max.name Lib.Math.max.code 2 (some .int) ∈ md_Ts) (hdg : decode Y.2.1 pc = .ok (.invokestatic index, 3)) (hf : 1 ≤ Y.2.2.2.1) (hlo : (st.map fun v => v.category).sum + 13 ≤ Y.2.2.2.2.1)
    (kk : mj_J G Y Ex N S (pc + 3) lv (.int (if x < y then y else x) :: st) μ) : mj_J G Y Ex N S pc lv (.int y :: .int x :: st) μ := by
  intro p e R s m args below meth c Q C H locs cells slots ls hw hL hb hc hs hl
  exact va_mmax C.1 C.2.1 (by rw [C.2.2.1]; exact hl.1.symm) C.2.2.2.1 (C.2.2.2.2.1 _ h1) (C.2.2.2.2.1 _ h2) (C.2.2.2.2.1 _ h3) (C.2.2.2.2.1 _ h4) (Nat.le_trans hf C.2.2.2.2.2.2.1) (Nat.le_trans hlo C.2.2.2.2.2.2.2.1) (by omega) (by omega) hdg (kk p e R s m args below meth c Q C H locs cells slots ls hw hL hb hc hs hl)
theorem mj_min {x y : Int32} {index : Nat} (h1 : Cond.methodLink Y.1 index Lib.Math.min.name ∈ md_Ts) (h2 : Cond.static Lib.Math.min.name ∈ md_Ts) (h3 : Cond.initialized "java/lang/Math" ∈ md_Ts) (h4 : Cond.code Lib.Math.min.name Lib.Math.min.code 2 (some .int) ∈ md_Ts) (hdg : decode Y.2.1 pc = .ok (.invokestatic index, 3)) (hf : 1 ≤ Y.2.2.2.1) (hlo : (st.map fun v => v.category).sum + 13 ≤ Y.2.2.2.2.1)
    (kk : mj_J G Y Ex N S (pc + 3) lv (.int (if y < x then y else x) :: st) μ) : mj_J G Y Ex N S pc lv (.int y :: .int x :: st) μ := by
  intro p e R s m args below meth c Q C H locs cells slots ls hw hL hb hc hs hl
  exact va_mmin C.1 C.2.1 (by rw [C.2.2.1]; exact hl.1.symm) C.2.2.2.1 (C.2.2.2.2.1 _ h1) (C.2.2.2.2.1 _ h2) (C.2.2.2.2.1 _ h3) (C.2.2.2.2.1 _ h4) (Nat.le_trans hf C.2.2.2.2.2.2.1) (Nat.le_trans hlo C.2.2.2.2.2.2.2.1) (by omega) (by omega) hdg (kk p e R s m args below meth c Q C H locs cells slots ls hw hL hb hc hs hl)
end MJC
section MJD
variable {G : mj_G} {Y : mj_Y} {Ex : Option Value → mj_MM → Prop} {N S pc : Nat} {lv : List (Nat × Value)} {st : List Value} {μ : mj_MM}
theorem mj_cell (cA : ClassId) (ty : FieldType) (a : Nat) : vp_cell cA (mj_arr ty μ a) = arrV cA (mj_n μ a) (fun j => mj_val ty μ a j) := by cases ty <;> rfl
theorem mj_W.arr {H : Heap} {a t : Nat} {ty : FieldType} (hw : mj_W G μ H) (hty : md_at[t]? = some ty) (ht : mj_t μ a = 1000 + t) : H[a]? = some (arrV (G.2.2.1.1 t) (mj_n μ a) (fun j => mj_val ty μ a j)) := by
  obtain ⟨ty', h1, h2⟩ := hw.2.2.2.2 a t ht
  cases hty.symm.trans h1
  rw [h2, mj_cell]
theorem mj_alen {a t : Nat} {rr : Option Nat} (hrr : rr = some a) {ty : FieldType} (hty : md_at[t]? = some ty) (ht : mj_t μ a = 1000 + t) (hdg : decode Y.2.1 pc = .ok (.arraylength, 1)) (kk : mj_J G Y Ex N S (pc + 1) lv (.int (nI (mj_n μ a)) :: st) μ) : mj_J G Y Ex N S pc lv (va_rf rr :: st) μ := by
  subst hrr
  intro p e R s m args below meth c Q C H locs cells slots ls hw hL hb hc hs hl
  exact W.alen (n := nI (mj_n μ a)) C.1 C.2.1 (hw.arr hty ht) ((C.2.2.2.2.2.1.2.1 t ty hty).1 _ _) (by rw [arrV_size]; rfl) rfl rfl hdg (kk p e R s m args below meth c Q C H locs cells slots ls hw hL hb hc hs hl)
theorem mj_inA {cA : ClassId} {n : Nat} {f : Nat → Value} {i : Int32} (hin : vp_in i n) : ¬ (i < 0 ∨ (arrV cA n f).slots.size ≤ i.toNatClampNeg) := by
  rw [arrV_size]
  exact hin
theorem mj_atA {cA : ClassId} {n : Nat} {f : Nat → Value} {i : Int32} (hin : vp_in i n) : (arrV cA n f).slots[i.toNatClampNeg]? = some (f i.toNatClampNeg) := arrV_read _ _ (Nat.not_le.mp fun q => hin (Or.inr q))
theorem mj_iald {a t : Nat} {rr : Option Nat} (hrr : rr = some a) {i : Int32} (hty : md_at[t]? = some .int) (ht : mj_t μ a = 1000 + t) (hin : vp_in i (mj_n μ a)) (hdg : decode Y.2.1 pc = .ok (.iaload, 1)) (kk : mj_J G Y Ex N S (pc + 1) lv (.int (mj_i μ a i.toNatClampNeg) :: st) μ) : mj_J G Y Ex N S pc lv (.int i :: va_rf rr :: st) μ := by
  subst hrr
  intro p e R s m args below meth c Q C H locs cells slots ls hw hL hb hc hs hl
  exact W.iald C.1 C.2.1 (hw.arr hty ht) ((C.2.2.2.2.2.1.2.1 t _ hty).1 _ _) (fun q => by cases q) (mj_inA hin) (mj_atA hin) rfl rfl hdg (kk p e R s m args below meth c Q C H locs cells slots ls hw hL hb hc hs hl)
theorem mj_sald {a t : Nat} {rr : Option Nat} (hrr : rr = some a) {i : Int32} (hty : md_at[t]? = some .short) (ht : mj_t μ a = 1000 + t) (hin : vp_in i (mj_n μ a)) (hdg : decode Y.2.1 pc = .ok (.saload, 1)) (kk : mj_J G Y Ex N S (pc + 1) lv (.int (mj_i μ a i.toNatClampNeg) :: st) μ) : mj_J G Y Ex N S pc lv (.int i :: va_rf rr :: st) μ := by
  subst hrr
  intro p e R s m args below meth c Q C H locs cells slots ls hw hL hb hc hs hl
  exact W.sald C.1 C.2.1 (hw.arr hty ht) ((C.2.2.2.2.2.1.2.1 t _ hty).1 _ _) (fun q => by cases q) (mj_inA hin) (mj_atA hin) rfl rfl hdg (kk p e R s m args below meth c Q C H locs cells slots ls hw hL hb hc hs hl)
theorem mj_zald {a t : Nat} {rr : Option Nat} (hrr : rr = some a) {i : Int32} (hty : md_at[t]? = some .boolean) (ht : mj_t μ a = 1000 + t) (hin : vp_in i (mj_n μ a)) (hdg : decode Y.2.1 pc = .ok (.baload, 1)) (kk : mj_J G Y Ex N S (pc + 1) lv (.int (mj_i μ a i.toNatClampNeg) :: st) μ) : mj_J G Y Ex N S pc lv (.int i :: va_rf rr :: st) μ := by
  subst hrr
  intro p e R s m args below meth c Q C H locs cells slots ls hw hL hb hc hs hl
  exact W.zald C.1 C.2.1 (hw.arr hty ht) ((C.2.2.2.2.2.1.2.1 t _ hty).1 _ _) (fun q => by cases q) (mj_inA hin) (mj_atA hin) rfl rfl hdg (kk p e R s m args below meth c Q C H locs cells slots ls hw hL hb hc hs hl)
theorem mj_lald {a t : Nat} {rr : Option Nat} (hrr : rr = some a) {i : Int32} (hty : md_at[t]? = some .long) (ht : mj_t μ a = 1000 + t) (hin : vp_in i (mj_n μ a)) (hdg : decode Y.2.1 pc = .ok (.laload, 1)) (kk : mj_J G Y Ex N S (pc + 1) lv (.long (mj_l μ a i.toNatClampNeg) :: st) μ) : mj_J G Y Ex N S pc lv (.int i :: va_rf rr :: st) μ := by
  subst hrr
  intro p e R s m args below meth c Q C H locs cells slots ls hw hL hb hc hs hl
  exact W.lald C.1 C.2.1 (hw.arr hty ht) ((C.2.2.2.2.2.1.2.1 t _ hty).1 _ _) (fun q => by cases q) (mj_inA hin) (mj_atA hin) rfl rfl hdg (kk p e R s m args below meth c Q C H locs cells slots ls hw hL hb hc hs hl)
theorem mj_aald {a t : Nat} {rr : Option Nat} (hrr : rr = some a) {i : Int32} {ty : FieldType} (hty : md_at[t]? = some ty) (hr : mj_ref ty = true) (ht : mj_t μ a = 1000 + t) (hin : vp_in i (mj_n μ a)) (hdg : decode Y.2.1 pc = .ok (.aaload, 1)) (kk : mj_J G Y Ex N S (pc + 1) lv (va_rf (mj_r μ a i.toNatClampNeg) :: st) μ) : mj_J G Y Ex N S pc lv (.int i :: va_rf rr :: st) μ := by
  subst hrr
  intro p e R s m args below meth c Q C H locs cells slots ls hw hL hb hc hs hl
  exact W.aald (ty := ty) C.1 C.2.1 (hw.arr hty ht) ((C.2.2.2.2.2.1.2.1 t _ hty).1 _ _) (by cases ty <;> first | rfl | (exact absurd hr Bool.false_ne_true)) (fun q => by cases q) (mj_inA hin) (by rw [mj_atA hin]; cases ty <;> first | rfl | (exact absurd hr Bool.false_ne_true)) rfl rfl hdg (kk p e R s m args below meth c Q C H locs cells slots ls hw hL hb hc hs hl)
/-- one array's cell has changed in one place -/
theorem mj_W.putA {H H' : Heap} {μ' : mj_MM} {a t k : Nat} {ty : FieldType} {v : Value} (hw : mj_W G μ H) (hty : md_at[t]? = some ty) (ht : mj_t μ a = 1000 + t)
    (e1 : H'[a]? = some ((arrV (G.2.2.1.1 t) (mj_n μ a) (fun j => mj_val ty μ a j)).setSlot k v)) (e2 : H'.size = H.size) (e3 : ∀ q, q ≠ a → H'[q]? = H[q]?) (h1 : ∀ b, mj_t μ' b = mj_t μ b) (h0 : mj_n μ' a = mj_n μ a)
    (h2 : ∀ j, mj_val ty μ' a j = updV (fun j => mj_val ty μ a j) k v j) (h3 : ∀ (b : Nat) (ty : FieldType) (j : Nat), b ≠ a → mj_val ty μ' b j = mj_val ty μ b j) (h4 : ∀ (b : Nat) (ty : FieldType), b ≠ a → mj_arr ty μ' b = mj_arr ty μ b) : mj_W G μ' H' := by
  obtain ⟨w1, w2, w3, w4, w5⟩ := hw
  have ha : G.2.2.2.size ≤ a := (w3 a (by rw [ht]; omega)).1
  refine ⟨by rw [e2]; exact w1, fun q hq => by rw [e3 q (by omega)]; exact w2 q hq, fun b hb => by rw [e2]; exact w3 b (by rw [← h1]; exact hb), fun b cj hj hb => ?_, fun b t' hb => ?_⟩
  · rw [h1] at hb
    by_cases hba : b = a
    · subst hba
      rw [ht] at hb
      omega
    · obtain ⟨r, g1, g2⟩ := w4 b cj hj hb
      exact ⟨r, g1, (g2.kept (e3 b hba)).to fun j _ => (h3 b _ j hba).symm⟩
  · rw [h1] at hb
    by_cases hba : b = a
    · subst hba
      have htt : t' = t := by rw [ht] at hb; omega
      subst htt
      refine ⟨ty, hty, ?_⟩
      rw [e1, mj_cell, arrV_store, h0]
      congr 2
      funext j
      exact (h2 j).symm
    · obtain ⟨q, g1, g2⟩ := w5 b t' hb
      exact ⟨q, g1, by rw [e3 b hba, h4 b _ hba]; exact g2⟩
theorem mj_iast {a t : Nat} {rr : Option Nat} (hrr : rr = some a) {i x : Int32} (hty : md_at[t]? = some .int) (ht : mj_t μ a = 1000 + t) (hin : vp_in i (mj_n μ a)) (hdg : decode Y.2.1 pc = .ok (.iastore, 1)) (kk : mj_J G Y Ex N S (pc + 1) lv st (mj_pI μ a i.toNatClampNeg x)) : mj_J G Y Ex N S pc lv (.int x :: .int i :: va_rf rr :: st) μ := by
  subst hrr
  intro p e R s m args below meth c Q C H locs cells slots ls hw hL hb hc hs hl
  have ha : G.2.2.2.size ≤ a := (hw.2.2.1 a (by rw [ht]; omega)).1
  refine W.iast C.1 C.2.1 (hw.arr hty ht) ((C.2.2.2.2.2.1.2.1 t _ hty).1 _ _) (fun q => by cases q) (mj_inA hin) rfl rfl hdg fun H' e1 e2 e3 => ?_
  refine kk p e R s m args below meth c Q C H' _ cells slots ls (hw.putA hty ht e1 e2 e3 (fun b => rfl) rfl (fun j => ?_) (fun b ty j hb => mj_val_pI ty a _ x hb) (fun b ty hb => mj_arr_pI ty a _ x hb)) (t_lc hL ha) hb hc hs hl
  by_cases hj : j = i.toNatClampNeg
  · subst hj
    simp [mj_val, mj_i, mj_pI, mj_u_self, updV]
  · simp [mj_val, mj_i, mj_pI, mj_u, updV, hj]
theorem mj_zast {a t : Nat} {rr : Option Nat} (hrr : rr = some a) {i x : Int32} (hty : md_at[t]? = some .boolean) (ht : mj_t μ a = 1000 + t) (hin : vp_in i (mj_n μ a)) (hx : narrow .boolean (.int x) = .int x) (hdg : decode Y.2.1 pc = .ok (.bastore, 1)) (kk : mj_J G Y Ex N S (pc + 1) lv st (mj_pI μ a i.toNatClampNeg x)) : mj_J G Y Ex N S pc lv (.int x :: .int i :: va_rf rr :: st) μ := by
  subst hrr
  intro p e R s m args below meth c Q C H locs cells slots ls hw hL hb hc hs hl
  have ha : G.2.2.2.size ≤ a := (hw.2.2.1 a (by rw [ht]; omega)).1
  refine W.zast C.1 C.2.1 (hw.arr hty ht) ((C.2.2.2.2.2.1.2.1 t _ hty).1 _ _) (fun q => by cases q) (mj_inA hin) rfl rfl hdg fun H' e1 e2 e3 => ?_
  rw [hx] at e1
  refine kk p e R s m args below meth c Q C H' _ cells slots ls (hw.putA hty ht e1 e2 e3 (fun b => rfl) rfl (fun j => ?_) (fun b ty j hb => mj_val_pI ty a _ x hb) (fun b ty hb => mj_arr_pI ty a _ x hb)) (t_lc hL ha) hb hc hs hl
  by_cases hj : j = i.toNatClampNeg
  · subst hj
    simp [mj_val, mj_i, mj_pI, mj_u_self, updV]
  · simp [mj_val, mj_i, mj_pI, mj_u, updV, hj]
theorem mj_sast {a t : Nat} {rr : Option Nat} (hrr : rr = some a) {i x : Int32} (hty : md_at[t]? = some .short) (ht : mj_t μ a = 1000 + t) (hin : vp_in i (mj_n μ a)) (hx : narrow .short (.int x) = .int x) (hdg : decode Y.2.1 pc = .ok (.sastore, 1)) (kk : mj_J G Y Ex N S (pc + 1) lv st (mj_pI μ a i.toNatClampNeg x)) : mj_J G Y Ex N S pc lv (.int x :: .int i :: va_rf rr :: st) μ := by
  subst hrr
  intro p e R s m args below meth c Q C H locs cells slots ls hw hL hb hc hs hl
  have ha : G.2.2.2.size ≤ a := (hw.2.2.1 a (by rw [ht]; omega)).1
  refine W.sast C.1 C.2.1 (hw.arr hty ht) ((C.2.2.2.2.2.1.2.1 t _ hty).1 _ _) (fun q => by cases q) (mj_inA hin) rfl rfl hdg fun H' e1 e2 e3 => ?_
  rw [hx] at e1
  refine kk p e R s m args below meth c Q C H' _ cells slots ls (hw.putA hty ht e1 e2 e3 (fun b => rfl) rfl (fun j => ?_) (fun b ty j hb => mj_val_pI ty a _ x hb) (fun b ty hb => mj_arr_pI ty a _ x hb)) (t_lc hL ha) hb hc hs hl
  by_cases hj : j = i.toNatClampNeg
  · subst hj
    simp [mj_val, mj_i, mj_pI, mj_u_self, updV]
  · simp [mj_val, mj_i, mj_pI, mj_u, updV, hj]
theorem mj_last {a t : Nat} {rr : Option Nat} (hrr : rr = some a) {i : Int32} {x : Int64} (hty : md_at[t]? = some .long) (ht : mj_t μ a = 1000 + t) (hin : vp_in i (mj_n μ a)) (hdg : decode Y.2.1 pc = .ok (.lastore, 1)) (kk : mj_J G Y Ex N S (pc + 1) lv st (mj_pL μ a i.toNatClampNeg x)) : mj_J G Y Ex N S pc lv (.long x :: .int i :: va_rf rr :: st) μ := by
  subst hrr
  intro p e R s m args below meth c Q C H locs cells slots ls hw hL hb hc hs hl
  have ha : G.2.2.2.size ≤ a := (hw.2.2.1 a (by rw [ht]; omega)).1
  refine W.last C.1 C.2.1 (hw.arr hty ht) ((C.2.2.2.2.2.1.2.1 t _ hty).1 _ _) (fun q => by cases q) (mj_inA hin) rfl rfl hdg fun H' e1 e2 e3 => ?_
  refine kk p e R s m args below meth c Q C H' _ cells slots ls (hw.putA hty ht e1 e2 e3 (fun b => rfl) rfl (fun j => ?_) (fun b ty j hb => mj_val_pL ty a _ x hb) (fun b ty hb => mj_arr_pL ty a _ x hb)) (t_lc hL ha) hb hc hs hl
  by_cases hj : j = i.toNatClampNeg
  · subst hj
    simp [mj_val, mj_l, mj_pL, mj_u_self, updV]
  · simp [mj_val, mj_l, mj_pL, mj_u, updV, hj]
theorem mj_upR {ty : FieldType} {a k : Nat} {x : Option Nat} (hr : mj_ref ty = true) (j : Nat) : mj_val ty (mj_pR μ a k x) a j = updV (fun j => mj_val ty μ a j) k (va_rf x) j := by
  unfold updV
  by_cases hj : j = k
  · subst hj
    rw [if_pos rfl]
    cases ty <;> first | (exact absurd hr Bool.false_ne_true) | (simp [mj_val, mj_r, mj_pR, mj_u_self])
  · rw [if_neg hj]
    cases ty <;> simp [mj_val, mj_i, mj_r, mj_l, mj_pR, mj_u, hj]
/-- an object of the component's class into an array of references -/
theorem mj_aast {a t v : Nat} {rr rv : Option Nat} (hrr : rr = some a) (hrv : rv = some v) {i : Int32} {ci : Nat} {Cn : String} {T : u_T} {NF : Nat} (hty : md_at[t]? = some (.object Cn)) (ht : mj_t μ a = 1000 + t) (hcl : mj_Cl ci Cn T NF) (hv : mj_t μ v = ci + 1) (hin : vp_in i (mj_n μ a)) (hdg : decode Y.2.1 pc = .ok (.aastore, 1)) (kk : mj_J G Y Ex N S (pc + 1) lv st (mj_pR μ a i.toNatClampNeg (some v))) : mj_J G Y Ex N S pc lv (va_rf rv :: .int i :: va_rf rr :: st) μ := by
  subst hrr; subst hrv
  intro p e R s m args below meth c Q C H locs cells slots ls hw hL hb hc hs hl
  have ha : G.2.2.2.size ≤ a := (hw.2.2.1 a (by rw [ht]; omega)).1
  obtain ⟨-, -, hA⟩ := C.2.2.2.2.2.1.2.1 t _ hty
  obtain ⟨kA, comp, q1, q2, q3, -⟩ := hA rfl
  obtain ⟨cell, g1, g2, g3, -⟩ := hw.obj hcl hv
  have hK := C.2.2.2.2.2.1.1.1 ci _ hcl.2.1
  have hcomp : comp = G.2.1.1 ci := Option.some.inj (q3.symm.trans hK.2.1)
  obtain ⟨-, kC, hkC, -⟩ := hK.2
  refine W.aast C.1 C.2.1 (hw.arr hty ht) (fun q h => by cases h) (fun h => by cases h) q1 q2 rfl (by rw [hcomp]; exact hkC) ⟨fun q => hin (Or.inl q), by rw [arrV_size]; exact Nat.not_le.mp fun q => hin (Or.inr q)⟩ g1 (fun q h => by rw [g3] at h; cases h) (by rw [g2]; exact hkC) (by rw [g2, hcomp]; exact va_asg _ _) rfl rfl hdg fun H' e1 e2 e3 => ?_
  exact kk p e R s m args below meth c Q C H' _ cells slots ls (hw.putA (v := va_rf (some v)) hty ht e1 e2 e3 (fun b => rfl) rfl (mj_upR rfl) (fun b ty j hb => mj_val_pR ty a _ _ hb) (fun b ty hb => mj_arr_pR ty a _ _ hb)) (t_lc hL ha) hb hc hs hl
/-- null into an array of objects -/
theorem mj_aastN {a t : Nat} {rr rv : Option Nat} (hrr : rr = some a) (hrv : rv = none) {i : Int32} {Cn : String} (hty : md_at[t]? = some (.object Cn)) (ht : mj_t μ a = 1000 + t) (hin : vp_in i (mj_n μ a)) (hdg : decode Y.2.1 pc = .ok (.aastore, 1)) (kk : mj_J G Y Ex N S (pc + 1) lv st (mj_pR μ a i.toNatClampNeg none)) : mj_J G Y Ex N S pc lv (va_rf rv :: .int i :: va_rf rr :: st) μ := by
  subst hrr; subst hrv
  intro p e R s m args below meth c Q C H locs cells slots ls hw hL hb hc hs hl
  have ha : G.2.2.2.size ≤ a := (hw.2.2.1 a (by rw [ht]; omega)).1
  refine va_WaastN C.1 C.2.1 (hw.arr hty ht) ((C.2.2.2.2.2.1.2.1 t _ hty).1 _ _) (fun q => by cases q) (mj_inA hin) rfl rfl hdg fun H' e1 e2 e3 => ?_
  exact kk p e R s m args below meth c Q C H' _ cells slots ls (hw.putA (v := va_rf none) hty ht e1 e2 e3 (fun b => rfl) rfl (mj_upR rfl) (fun b ty j hb => mj_val_pR ty a _ _ hb) (fun b ty hb => mj_arr_pR ty a _ _ hb)) (t_lc hL ha) hb hc hs hl
/-- an array into an array of arrays -/
theorem mj_aastA {a t v tv : Nat} {rr rv : Option Nat} (hrr : rr = some a) (hrv : rv = some v) {i : Int32} {tc : FieldType} (hty : md_at[t]? = some (.array tc)) (ht : mj_t μ a = 1000 + t) (htv : md_at[tv]? = some tc) (hv : mj_t μ v = 1000 + tv) (hin : vp_in i (mj_n μ a)) (hdg : decode Y.2.1 pc = .ok (.aastore, 1)) (kk : mj_J G Y Ex N S (pc + 1) lv st (mj_pR μ a i.toNatClampNeg (some v))) : mj_J G Y Ex N S pc lv (va_rf rv :: .int i :: va_rf rr :: st) μ := by
  subst hrr; subst hrv
  intro p e R s m args below meth c Q C H locs cells slots ls hw hL hb hc hs hl
  have ha : G.2.2.2.size ≤ a := (hw.2.2.1 a (by rw [ht]; omega)).1
  obtain ⟨-, -, hA⟩ := C.2.2.2.2.2.1.2.1 t _ hty
  obtain ⟨kA, comp, q1, q2, q3, -⟩ := hA rfl
  have g1 := hw.arr htv hv
  obtain ⟨g2, g3, -⟩ := C.2.2.2.2.2.1.2.1 tv _ htv
  have hcomp : comp = G.2.2.1.1 tv := Option.some.inj (q3.symm.trans g3)
  obtain ⟨kC, hkC, -⟩ := Vm.findClass_spec g3
  refine W.aast C.1 C.2.1 (hw.arr hty ht) (fun q h => by cases h) (fun h => by cases h) q1 q2 rfl (by rw [hcomp]; exact hkC) ⟨fun q => hin (Or.inl q), by rw [arrV_size]; exact Nat.not_le.mp fun q => hin (Or.inr q)⟩ g1 (fun q h => by cases h) hkC (by rw [hcomp]; exact va_asg _ _) rfl rfl hdg fun H' e1 e2 e3 => ?_
  exact kk p e R s m args below meth c Q C H' _ cells slots ls (hw.putA (v := va_rf (some v)) hty ht e1 e2 e3 (fun b => rfl) rfl (mj_upR rfl) (fun b ty j hb => mj_val_pR ty a _ _ hb) (fun b ty hb => mj_arr_pR ty a _ _ hb)) (t_lc hL ha) hb hc hs hl
theorem mj_blankA (ty : FieldType) (a t n k0 : Nat) (cA : ClassId) (d : Value) (hd : d = mj_dv ty) : vp_cell cA (mj_arr ty (mj_new μ a t n k0) a) = arrV cA n (fun _ => d) := by
  rw [mj_cell]
  have e : mj_n (mj_new μ a t n k0) a = n := by simp [mj_n, mj_new, mj_w]
  rw [e]
  congr 1
  funext j
  rw [mj_val_new, hd]
theorem mj_newa {t : Nat} {ty : FieldType} {atype : ArrayType} {n : Int32} {NA : Nat} (hty : md_at[t]? = some ty) (hat : newarray.typeOf atype = ty) (hd : defaultValue ty = mj_dv ty) (hw0 : Cond.arrayClass ty ∈ md_Ts) (hdg : decode Y.2.1 pc = .ok (.newarray atype, 2)) (hn : n = nI NA) (hN : NA * componentBytes ty ≤ 536870912) (hN2 : NA < 2 ^ 31) (h1 : mj_nc μ + 1 ≤ N) (h2 : mj_ns μ + NA ≤ S)
    (kk : ∀ a : Nat, mj_t μ a = 0 → mj_J G Y Ex N S (pc + 2) lv (va_rf (some a) :: st) (mj_new μ a (1000 + t) NA NA)) : mj_J G Y Ex N S pc lv (.int n :: st) μ := by
  intro p e R s m args below meth c Q C H locs cells slots ls hw hL hb hc hs hl
  subst hn
  obtain ⟨hb1, hb2⟩ := hb
  subst hat
  have hcl : (nI NA).toNatClampNeg = NA := nI_clamp hN2
  refine va_newaK C.1 C.2.1 (C.2.2.2.2.1 _ hw0) rfl hdg rfl (nI_pos hN2) hcl hN (by omega) (by omega) rfl fun H1 cA e1 z1 o1 hAr hNm => ?_
  have hcA : cA = G.2.2.1.1 t := Option.some.inj (hNm.symm.trans (C.2.2.2.2.2.1.2.1 t _ hty).2.1)
  refine kk H.size hw.free p e R s m args below meth c Q C H1 locs (cells + 1) (slots + NA) ls (hw.new o1 z1 (fun cj hj e => by omega) (fun k e => ?_)) hL ⟨h1, h2⟩ (by show cells + 1 + (N - (mj_nc μ + 1)) ≤ _; omega) (by show slots + NA + (S - (mj_ns μ + NA)) ≤ _; omega) hl
  have hk : k = t := by omega
  subst hk
  exact ⟨_, hty, by rw [e1, mj_blankA _ _ _ _ _ _ _ hd, hcA]⟩
theorem mj_push {H : Heap} {cell : Cell} : (∀ q, q < H.size → (H.push cell)[q]? = H[q]?) ∧ (H.push cell)[H.size]? = some cell ∧ (H.push cell).size = H.size + 1 := by
  refine ⟨fun q hq => ?_, by simp, by simp⟩
  rw [Array.getElem?_push]
  simp [Nat.ne_of_lt hq]
theorem mj_newq {t index : Nat} {Cn : String} {n : Int32} {NA : Nat} (hty : md_at[t]? = some (.object Cn)) (hcl : Cond.classLink Y.1 index Cn ∈ md_Ts) (hdg : decode Y.2.1 pc = .ok (.anewarray index, 3)) (hn : n = nI NA) (hN : NA * 4 ≤ 536870912) (h1 : mj_nc μ + 1 ≤ N) (h2 : mj_ns μ + NA ≤ S)
    (kk : ∀ a : Nat, mj_t μ a = 0 → mj_J G Y Ex N S (pc + 3) lv (va_rf (some a) :: st) (mj_new μ a (1000 + t) NA NA)) : mj_J G Y Ex N S pc lv (.int n :: st) μ := by
  intro p e R s m args below meth c Q C H locs cells slots ls hw hL hb hc hs hl
  subst hn
  obtain ⟨hb1, hb2⟩ := hb
  have hN2 : NA < 2 ^ 31 := by omega
  have hcl2 : (nI NA).toNatClampNeg = NA := nI_clamp hN2
  have hA := C.2.2.2.2.2.1.2.1 t _ hty
  refine W.anew C.1 C.2.1 C.2.2.2.1 (C.2.2.2.2.1 _ hcl) (hA.over rfl) rfl hdg rfl (nI_pos hN2) (by rw [hcl2]; exact hN) (by omega) (by rw [hcl2]; omega) fun cA kA comp f1 f2 f3 f4 => ?_
  have hcA : cA = G.2.2.1.1 t := Option.some.inj (f1.symm.trans hA.2.1)
  obtain ⟨o1, e1, z1⟩ := mj_push (H := H) (cell := { cls := cA, slots := Array.replicate (nI NA).toNatClampNeg .null, vm := .none })
  rw [hcl2] at e1 z1 o1 ⊢
  refine kk H.size hw.free p e R s m args below meth c Q C _ locs (cells + 1) (slots + NA) ls (hw.new o1 z1 (fun cj hj e => by omega) (fun k e => ?_)) hL ⟨h1, h2⟩ (by show cells + 1 + (N - (mj_nc μ + 1)) ≤ _; omega) (by show slots + NA + (S - (mj_ns μ + NA)) ≤ _; omega) hl
  have hk : k = t := by omega
  subst hk
  refine ⟨_, hty, ?_⟩
  rw [e1, mj_blankA _ _ _ _ _ _ .null rfl, hcA]
  simp only [arrV]
  congr 2
  apply Array.ext <;> simp
theorem mj_newqA {t index : Nat} {tc : FieldType} {n : Int32} {NA : Nat} (hty : md_at[t]? = some (.array tc)) (hcl : Cond.classLink Y.1 index (FieldType.array tc).toString ∈ md_Ts) (hdg : decode Y.2.1 pc = .ok (.anewarray index, 3)) (hn : n = nI NA) (hN : NA * 4 ≤ 536870912) (h1 : mj_nc μ + 1 ≤ N) (h2 : mj_ns μ + NA ≤ S)
    (kk : ∀ a : Nat, mj_t μ a = 0 → mj_J G Y Ex N S (pc + 3) lv (va_rf (some a) :: st) (mj_new μ a (1000 + t) NA NA)) : mj_J G Y Ex N S pc lv (.int n :: st) μ := by
  intro p e R s m args below meth c Q C H locs cells slots ls hw hL hb hc hs hl
  subst hn
  obtain ⟨hb1, hb2⟩ := hb
  have hN2 : NA < 2 ^ 31 := by omega
  have hcl2 : (nI NA).toNatClampNeg = NA := nI_clamp hN2
  have hA := C.2.2.2.2.2.1.2.1 t _ hty
  refine W.anewA C.1 C.2.1 C.2.2.2.1 (C.2.2.2.2.1 _ hcl) (hA.over rfl) rfl hdg rfl (nI_pos hN2) (by rw [hcl2]; exact hN) (by omega) (by rw [hcl2]; omega) fun cA kA comp f1 f2 f3 f4 => ?_
  have hcA : cA = G.2.2.1.1 t := Option.some.inj (f1.symm.trans hA.2.1)
  obtain ⟨o1, e1, z1⟩ := mj_push (H := H) (cell := { cls := cA, slots := Array.replicate (nI NA).toNatClampNeg .null, vm := .none })
  rw [hcl2] at e1 z1 o1 ⊢
  refine kk H.size hw.free p e R s m args below meth c Q C _ locs (cells + 1) (slots + NA) ls (hw.new o1 z1 (fun cj hj e => by omega) (fun k e => ?_)) hL ⟨h1, h2⟩ (by show cells + 1 + (N - (mj_nc μ + 1)) ≤ _; omega) (by show slots + NA + (S - (mj_ns μ + NA)) ≤ _; omega) hl
  have hk : k = t := by omega
  subst hk
  refine ⟨_, hty, ?_⟩
  rw [e1, mj_blankA _ _ _ _ _ _ .null rfl, hcA]
  simp only [arrV]
  congr 2
  apply Array.ext <;> simp
/-- an old array of ints: the class's tables, the script -/
theorem mj_old {H : Heap} {s : State} {j : Nat} (hj : j < 3) (hw : mj_W G μ H) (hK : mj_K G s) : va_T .int (G.2.2.1.2 j).1 (G.2.2.1.2 j).2.1 (fun k => .int ((G.2.2.1.2 j).2.2 k)) (fun q => G.2.2.2.size ≤ q) s H :=
  (hK.2.2.1 j hj).kept fun a ha hA => hw.2.1 a ha
theorem mj_oldlen {a j : Nat} {rr : Option Nat} (hrr : rr = some a) (hj : j < 3) (ha : a = (G.2.2.1.2 j).1) (hdg : decode Y.2.1 pc = .ok (.arraylength, 1)) (kk : mj_J G Y Ex N S (pc + 1) lv (.int (nI (G.2.2.1.2 j).2.1) :: st) μ) : mj_J G Y Ex N S pc lv (va_rf rr :: st) μ := by
  subst hrr
  subst ha
  intro p e R s m args below meth c Q C H locs cells slots ls hw hL hb hc hs hl
  obtain ⟨cell, h1, h2, h3, h4, h5, -⟩ := mj_old hj hw C.2.2.2.2.2.1
  exact W.alen (n := nI (G.2.2.1.2 j).2.1) C.1 C.2.1 h1 h2 h5 rfl rfl hdg (kk p e R s m args below meth c Q C H locs cells slots ls hw hL hb hc hs hl)
theorem mj_oldld {a j : Nat} {rr : Option Nat} {i : Int32} (hrr : rr = some a) (hj : j < 3) (ha : a = (G.2.2.1.2 j).1) (hin : vp_in i (G.2.2.1.2 j).2.1) (hdg : decode Y.2.1 pc = .ok (.iaload, 1)) (kk : mj_J G Y Ex N S (pc + 1) lv (.int ((G.2.2.1.2 j).2.2 i.toNatClampNeg) :: st) μ) : mj_J G Y Ex N S pc lv (.int i :: va_rf rr :: st) μ := by
  subst hrr
  subst ha
  intro p e R s m args below meth c Q C H locs cells slots ls hw hL hb hc hs hl
  obtain ⟨cell, h1, h2, h3, h4, h5, h6, -⟩ := mj_old hj hw C.2.2.2.2.2.1
  have hlt : i.toNatClampNeg < (G.2.2.1.2 j).2.1 := Nat.not_le.mp fun q => hin (Or.inr q)
  exact W.iald C.1 C.2.1 h1 h2 h3 (fun q => by rcases q with q | q; exact hin (Or.inl q); omega) (h6 _ hlt) rfl rfl hdg (kk p e R s m args below meth c Q C H locs cells slots ls hw hL hb hc hs hl)
theorem mj_gets {j index : Nat} {nm : String} (hj : j < 2) (hnm : nm = mj_snm j) (hlink : Cond.fieldLink Y.1 index "TaskCores" nm "[I" ∈ md_Ts) (hdg : decode Y.2.1 pc = .ok (.getstatic index, 3)) (kk : mj_J G Y Ex N S (pc + 3) lv (va_rf (some (G.2.2.1.2 j).1) :: st) μ) : mj_J G Y Ex N S pc lv st μ := by
  subst hnm
  intro p e R s m args below meth c Q C H locs cells slots ls hw hL hb hc hs hl
  obtain ⟨cf, kf, fi, f, a, cell, h1, h2, h3, h4, h5, h6, h7, h8⟩ := (C.2.2.2.2.2.1.2.2.2.1 j hj).kept (H1 := H) fun a ha hA => hw.2.1 a ha
  exact W.gets C.1 C.2.1 C.2.2.2.1 (C.2.2.2.2.1 _ hlink) h1 h2 h3 h4 h5 (fun e => by rw [e] at h6; cases h6) h7 rfl hdg (kk p e R s m args below meth c Q C H locs cells slots ls hw hL hb hc hs hl)
theorem mj_callIN {y : MethodName} {Yc : mj_Y} {b index N' S' n : Nat} {As : List Value} {rr : Option Nat} {Ex' : Option Value → mj_MM → Prop} (hrr : rr = some b) (hM : mj_M G y Yc (va_rf (some b) :: As) N' S' μ Ex') (hln : (Y.1, index, y) ∈ md_nest) (hini : Cond.initialized y.cls ∈ md_Ts) (hcode : Cond.code y Yc.2.1 Yc.2.2.1 Yc.2.2.2.2.2.1 ∈ md_Ts)
    (hd : y.cls ≠ "java/lang/invoke/MethodHandle" ∧ y.cls ≠ "java/lang/invoke/VarHandle" ∧ (parseMethodDescriptor y.desc).map (fun d => d.parameters.length) = some n) (hfr : Yc.2.2.2.1 + 1 ≤ Y.2.2.2.1) (hlo : 8 + (Yc.2.2.1 + 11) + Yc.2.2.2.2.1 ≤ Y.2.2.2.2.1)
    (hret : Yc.2.2.2.2.2.1 = none) (hinit : y.name = "<init>") (hinst : Cond.instanceMethod y ∈ md_Ts) (hn : As.length = n) (hdg : decode Y.2.1 pc = .ok (.invokespecial index, 3)) (hst : (st.map fun v => v.category).sum ≤ 8) (h1 : mj_nc μ ≤ N ∧ mj_ns μ ≤ S → N' ≤ N ∧ S' ≤ S)
    (kk : ∀ (v : Option Value) (μ' : mj_MM), Ex' v μ' → mj_nc μ' = N' → mj_ns μ' = S' → mj_J G Y Ex N S (pc + 3) lv (v.toList ++ st) μ') : mj_J G Y Ex N S pc lv (As.reverse ++ va_rf rr :: st) μ := by
  subst hrr
  intro p e R s m args below meth c Q C H locs cells slots ls hw hL hb hc hs hl
  obtain ⟨hb0, hM⟩ := hM
  rw [hret] at hM hcode
  exact mj_after (a := (va_rf (some b) :: As).toArray) C hb0 (va_runIN (As := As) (rest := st) (Ts := md_Ts) (nL := Y.2.2.1) (host := "TaskCores") ⟨C.1, C.2.1, C.2.2.1, C.2.2.2.1, C.2.2.2.2.1⟩ hM ⟨va_cnB (Ts := md_Ts) n C.2.2.2.2.1 (fun w hw => by
    rcases List.mem_cons.mp hw with rfl | hw
    · exact ⟨hcode, good_of_word (mj_good _ hcode)⟩
    · exact ⟨hw, good_of_word (mj_good _ hw)⟩) rfl rfl rfl (C.2.2.2.2.2.1.2.2.2.2 _ hln) (C.2.2.2.2.1 _ hini) hd ⟨Nat.le_trans hfr C.2.2.2.2.2.2.1, Nat.le_trans hlo C.2.2.2.2.2.2.2.1⟩, hinit, C.2.2.2.2.1 _ hinst⟩ ⟨mj_blind, fun U hU hWm => ⟨rfl, by rw [hU]; exact hw, mj_K.warm hWm C.2.2.2.2.2.1⟩⟩ rfl hn hl.1 rfl (lv_room hst) hdg ⟨by omega, by omega⟩) hL hb hc hs hl (h1 hb) kk
end MJD
end
section
abbrev mc_T_init : ByteArray := prog_1_method_1_code
abbrev my_T_init : MethodName := ⟨mR_T, "<init>", "(I)V"⟩
abbrev mY_T_init : mj_Y := (mR_T, mc_T_init, 4, 3, 63, none, true)
abbrev mc_T_task : ByteArray := prog_1_method_2_code
abbrev my_T_task : MethodName := ⟨mR_T, "task", "(IIIZ)I"⟩
abbrev mY_T_task : mj_Y := (mR_T, mc_T_task, 8, 3, 68, some (.int), false)
abbrev mc_T_part : ByteArray := prog_1_method_3_code
abbrev my_T_part : MethodName := ⟨mR_T, "part", "(IIJ)I"⟩
abbrev mY_T_part : mj_Y := (mR_T, mc_T_part, 8, 2, 43, some (.int), false)
abbrev mc_T_manner : ByteArray := prog_1_method_4_code
abbrev my_T_manner : MethodName := ⟨mR_T, "manner", "(IZ)I"⟩
abbrev mY_T_manner : mj_Y := (mR_T, mc_T_manner, 4, 1, 21, some (.int), false)
abbrev mc_T_activate : ByteArray := prog_1_method_5_code
abbrev my_T_activate : MethodName := ⟨mR_T, "activate", "(IJ)I"⟩
abbrev mY_T_activate : mj_Y := (mR_T, mc_T_activate, 5, 2, 43, some (.int), false)
abbrev mc_T_interrupt : ByteArray := prog_1_method_6_code
abbrev my_T_interrupt : MethodName := ⟨mR_T, "interrupt", "(IJJ)I"⟩
abbrev mY_T_interrupt : mj_Y := (mR_T, mc_T_interrupt, 6, 2, 44, some (.int), false)
abbrev mc_T_run : ByteArray := prog_1_method_7_code
abbrev my_T_run : MethodName := ⟨mR_T, "run", "(J)I"⟩
abbrev mY_T_run : mj_Y := (mR_T, mc_T_run, 10, 6, 142, some (.int), false)
abbrev mc_T_now : ByteArray := prog_1_method_8_code
abbrev my_T_now : MethodName := ⟨mR_T, "now", "()J"⟩
abbrev mY_T_now : mj_Y := (mR_T, mc_T_now, 1, 0, 0, some (.long), false)
abbrev mc_T_running : ByteArray := prog_1_method_9_code
abbrev my_T_running : MethodName := ⟨mR_T, "running", "(IJ)I"⟩
abbrev mY_T_running : mj_Y := (mR_T, mc_T_running, 5, 2, 48, some (.int), false)
abbrev mc_T_used : ByteArray := prog_1_method_10_code
abbrev my_T_used : MethodName := ⟨mR_T, "used", "(I)J"⟩
abbrev mY_T_used : mj_Y := (mR_T, mc_T_used, 3, 1, 21, some (.long), false)
abbrev mc_T_state : ByteArray := prog_1_method_11_code
abbrev my_T_state : MethodName := ⟨mR_T, "state", "(I)I"⟩
abbrev mY_T_state : mj_Y := (mR_T, mc_T_state, 3, 1, 21, some (.int), false)
abbrev mc_T_event : ByteArray := prog_1_method_12_code
abbrev my_T_event : MethodName := ⟨mR_T, "event", "(II)I"⟩
abbrev mY_T_event : mj_Y := (mR_T, mc_T_event, 4, 2, 43, some (.int), false)
abbrev mc_T_events : ByteArray := prog_1_method_13_code
abbrev my_T_events : MethodName := ⟨mR_T, "events", "(I)I"⟩
abbrev mY_T_events : mj_Y := (mR_T, mc_T_events, 3, 1, 21, some (.int), false)
abbrev mc_T_code : ByteArray := prog_1_method_14_code
abbrev my_T_code : MethodName := ⟨mR_T, "code", "(II)I"⟩
abbrev mY_T_code : mj_Y := (mR_T, mc_T_code, 3, 1, 23, some (.int), false)
abbrev mc_T_order : ByteArray := prog_1_method_15_code
abbrev my_T_order : MethodName := ⟨mR_T, "order", "(II)I"⟩
abbrev mY_T_order : mj_Y := (mR_T, mc_T_order, 3, 1, 23, some (.int), false)
abbrev mc_T_spin : ByteArray := prog_1_method_16_code
abbrev my_T_spin : MethodName := ⟨mR_T, "spin", "(II)I"⟩
abbrev mY_T_spin : mj_Y := (mR_T, mc_T_spin, 6, 1, 22, some (.int), false)
abbrev mc_T_holder : ByteArray := prog_1_method_17_code
abbrev my_T_holder : MethodName := ⟨mR_T, "holder", "(I)I"⟩
abbrev mY_T_holder : mj_Y := (mR_T, mc_T_holder, 3, 1, 21, some (.int), false)
abbrev mc_T_coreOf : ByteArray := prog_1_method_18_code
abbrev my_T_coreOf : MethodName := ⟨mR_T, "coreOf", "(I)LTaskCores$Core;"⟩
abbrev mY_T_coreOf : mj_Y := (mR_T, mc_T_coreOf, 2, 0, 0, some (.object "TaskCores$Core"), false)
abbrev mc_T_taskOf : ByteArray := prog_1_method_19_code
abbrev my_T_taskOf : MethodName := ⟨mR_T, "taskOf", "(I)LTaskCores$Task;"⟩
abbrev mY_T_taskOf : mj_Y := (mR_T, mc_T_taskOf, 2, 0, 0, some (.object "TaskCores$Task"), false)
abbrev mc_T_resourceOf : ByteArray := prog_1_method_20_code
abbrev my_T_resourceOf : MethodName := ⟨mR_T, "resourceOf", "(I)LTaskCores$Resource;"⟩
abbrev mY_T_resourceOf : mj_Y := (mR_T, mc_T_resourceOf, 2, 0, 0, some (.object "TaskCores$Resource"), false)
abbrev mc_T_lockOf : ByteArray := prog_1_method_21_code
abbrev my_T_lockOf : MethodName := ⟨mR_T, "lockOf", "(I)LTaskCores$Lock;"⟩
abbrev mY_T_lockOf : mj_Y := (mR_T, mc_T_lockOf, 2, 0, 0, some (.object "TaskCores$Lock"), false)
abbrev mc_T_isToCome : ByteArray := prog_1_method_22_code
abbrev my_T_isToCome : MethodName := ⟨mR_T, "isToCome", "(J)Z"⟩
abbrev mY_T_isToCome : mj_Y := (mR_T, mc_T_isToCome, 3, 0, 0, some (.boolean), false)
abbrev mc_T_mayBePart : ByteArray := prog_1_method_23_code
abbrev my_T_mayBePart : MethodName := ⟨mR_T, "mayBePart", "(IJ)Z"⟩
abbrev mY_T_mayBePart : mj_Y := (mR_T, mc_T_mayBePart, 3, 0, 0, some (.boolean), false)
abbrev mc_T_addTelling : ByteArray := prog_1_method_24_code
abbrev my_T_addTelling : MethodName := ⟨mR_T, "addTelling", "(LTaskCores$Telling;)V"⟩
abbrev mY_T_addTelling : mj_Y := (mR_T, mc_T_addTelling, 4, 0, 0, none, false)
abbrev mc_T_activateThoseTold : ByteArray := prog_1_method_25_code
abbrev my_T_activateThoseTold : MethodName := ⟨mR_T, "activateThoseTold", "()V"⟩
abbrev mY_T_activateThoseTold : mj_Y := (mR_T, mc_T_activateThoseTold, 2, 3, 68, none, false)
abbrev mc_T_takeSteps : ByteArray := prog_1_method_26_code
abbrev my_T_takeSteps : MethodName := ⟨mR_T, "takeSteps", "()V"⟩
abbrev mY_T_takeSteps : mj_Y := (mR_T, mc_T_takeSteps, 9, 5, 114, none, false)
abbrev mc_T_taskWithStep : ByteArray := prog_1_method_27_code
abbrev my_T_taskWithStep : MethodName := ⟨mR_T, "taskWithStep", "(LTaskCores$Core;)LTaskCores$Task;"⟩
abbrev mY_T_taskWithStep : mj_Y := (mR_T, mc_T_taskWithStep, 5, 4, 90, some (.object "TaskCores$Task"), false)
abbrev mc_T_choose : ByteArray := prog_1_method_28_code
abbrev my_T_choose : MethodName := ⟨mR_T, "choose", "(LTaskCores$Core;)V"⟩
abbrev mY_T_choose : mj_Y := (mR_T, mc_T_choose, 5, 3, 66, none, false)
abbrev mc_T_startsToSpin : ByteArray := prog_1_method_29_code
abbrev my_T_startsToSpin : MethodName := ⟨mR_T, "startsToSpin", "(LTaskCores$Task;LTaskCores$Lock;)Z"⟩
abbrev mY_T_startsToSpin : mj_Y := (mR_T, mc_T_startsToSpin, 2, 1, 23, some (.boolean), false)
abbrev mc_T_doNextPart : ByteArray := prog_1_method_30_code
abbrev my_T_doNextPart : MethodName := ⟨mR_T, "doNextPart", "(LTaskCores$Task;)V"⟩
abbrev mY_T_doNextPart : mj_Y := (mR_T, mc_T_doNextPart, 4, 4, 91, none, false)
abbrev mc_T_activateByTask : ByteArray := prog_1_method_31_code
abbrev my_T_activateByTask : MethodName := ⟨mR_T, "activateByTask", "(LTaskCores$Task;I)V"⟩
abbrev mY_T_activateByTask : mj_Y := (mR_T, mc_T_activateByTask, 4, 3, 68, none, false)
abbrev mc_T_chain : ByteArray := prog_1_method_32_code
abbrev my_T_chain : MethodName := ⟨mR_T, "chain", "(LTaskCores$Task;I)V"⟩
abbrev mY_T_chain : mj_Y := (mR_T, mc_T_chain, 4, 3, 68, none, false)
abbrev mc_T_waitFor : ByteArray := prog_1_method_33_code
abbrev my_T_waitFor : MethodName := ⟨mR_T, "waitFor", "(LTaskCores$Task;I)V"⟩
abbrev mY_T_waitFor : mj_Y := (mR_T, mc_T_waitFor, 3, 2, 47, none, false)
abbrev mc_T_setByTask : ByteArray := prog_1_method_34_code
abbrev my_T_setByTask : MethodName := ⟨mR_T, "setByTask", "(LTaskCores$Task;II)V"⟩
abbrev mY_T_setByTask : mj_Y := (mR_T, mc_T_setByTask, 5, 2, 47, none, false)
abbrev mc_T_clearEvents : ByteArray := prog_1_method_35_code
abbrev my_T_clearEvents : MethodName := ⟨mR_T, "clearEvents", "(LTaskCores$Task;I)V"⟩
abbrev mY_T_clearEvents : mj_Y := (mR_T, mc_T_clearEvents, 3, 2, 47, none, false)
abbrev mc_T_getResource : ByteArray := prog_1_method_36_code
abbrev my_T_getResource : MethodName := ⟨mR_T, "getResource", "(LTaskCores$Task;LTaskCores$Resource;)V"⟩
abbrev mY_T_getResource : mj_Y := (mR_T, mc_T_getResource, 3, 2, 47, none, false)
abbrev mc_T_freeResource : ByteArray := prog_1_method_37_code
abbrev my_T_freeResource : MethodName := ⟨mR_T, "freeResource", "(LTaskCores$Task;LTaskCores$Resource;)V"⟩
abbrev mY_T_freeResource : mj_Y := (mR_T, mc_T_freeResource, 3, 2, 47, none, false)
abbrev mc_T_takeLock : ByteArray := prog_1_method_38_code
abbrev my_T_takeLock : MethodName := ⟨mR_T, "takeLock", "(LTaskCores$Task;LTaskCores$Lock;)V"⟩
abbrev mY_T_takeLock : mj_Y := (mR_T, mc_T_takeLock, 3, 2, 47, none, false)
abbrev mc_T_unlock : ByteArray := prog_1_method_39_code
abbrev my_T_unlock : MethodName := ⟨mR_T, "unlock", "(LTaskCores$Task;LTaskCores$Lock;)V"⟩
abbrev mY_T_unlock : mj_Y := (mR_T, mc_T_unlock, 3, 2, 47, none, false)
abbrev mc_T_putOff : ByteArray := prog_1_method_40_code
abbrev my_T_putOff : MethodName := ⟨mR_T, "putOff", "(LTaskCores$Task;I)V"⟩
abbrev mY_T_putOff : mj_Y := (mR_T, mc_T_putOff, 3, 2, 47, none, false)
abbrev mc_T_putOn : ByteArray := prog_1_method_41_code
abbrev my_T_putOn : MethodName := ⟨mR_T, "putOn", "(LTaskCores$Task;)V"⟩
abbrev mY_T_putOn : mj_Y := (mR_T, mc_T_putOn, 2, 2, 47, none, false)
abbrev mc_T_setEvents : ByteArray := prog_1_method_42_code
abbrev my_T_setEvents : MethodName := ⟨mR_T, "setEvents", "(LTaskCores$Task;I)V"⟩
abbrev mY_T_setEvents : mj_Y := (mR_T, mc_T_setEvents, 3, 1, 21, none, false)
abbrev mc_T_activateTask : ByteArray := prog_1_method_43_code
abbrev my_T_activateTask : MethodName := ⟨mR_T, "activateTask", "(LTaskCores$Task;)V"⟩
abbrev mY_T_activateTask : mj_Y := (mR_T, mc_T_activateTask, 2, 2, 47, none, false)
abbrev mc_T_endTask : ByteArray := prog_1_method_44_code
abbrev my_T_endTask : MethodName := ⟨mR_T, "endTask", "(LTaskCores$Task;)V"⟩
abbrev mY_T_endTask : mj_Y := (mR_T, mc_T_endTask, 2, 2, 47, none, false)
abbrev mc_T_freeAll : ByteArray := prog_1_method_45_code
abbrev my_T_freeAll : MethodName := ⟨mR_T, "freeAll", "(LTaskCores$Task;)Z"⟩
abbrev mY_T_freeAll : mj_Y := (mR_T, mc_T_freeAll, 7, 1, 21, some (.boolean), false)
abbrev mc_T_startTask : ByteArray := prog_1_method_46_code
abbrev my_T_startTask : MethodName := ⟨mR_T, "startTask", "(LTaskCores$Task;)V"⟩
abbrev mY_T_startTask : mj_Y := (mR_T, mc_T_startTask, 2, 1, 21, none, false)
abbrev mc_T_makeReady : ByteArray := prog_1_method_47_code
abbrev my_T_makeReady : MethodName := ⟨mR_T, "makeReady", "(LTaskCores$Task;)V"⟩
abbrev mY_T_makeReady : mj_Y := (mR_T, mc_T_makeReady, 2, 0, 0, none, false)
abbrev mc_T_tellCode : ByteArray := prog_1_method_48_code
abbrev my_T_tellCode : MethodName := ⟨mR_T, "tellCode", "(ILTaskCores$Task;)V"⟩
abbrev mY_T_tellCode : mj_Y := (mR_T, mc_T_tellCode, 3, 1, 25, none, false)
abbrev mc_T_tellIfOffTooLong : ByteArray := prog_1_method_49_code
abbrev my_T_tellIfOffTooLong : MethodName := ⟨mR_T, "tellIfOffTooLong", "()V"⟩
abbrev mY_T_tellIfOffTooLong : mj_Y := (mR_T, mc_T_tellIfOffTooLong, 2, 2, 47, none, false)
abbrev mc_T_quietMicroseconds : ByteArray := prog_1_method_50_code
abbrev my_T_quietMicroseconds : MethodName := ⟨mR_T, "quietMicroseconds", "(I)I"⟩
abbrev mY_T_quietMicroseconds : mj_Y := (mR_T, mc_T_quietMicroseconds, 9, 2, 44, some (.int), false)
abbrev mc_T_passMicroseconds : ByteArray := prog_1_method_51_code
abbrev my_T_passMicroseconds : MethodName := ⟨mR_T, "passMicroseconds", "(I)I"⟩
abbrev mY_T_passMicroseconds : mj_Y := (mR_T, mc_T_passMicroseconds, 10, 2, 47, some (.int), false)
abbrev mc_M_init : ByteArray := prog_12_method_1_code
abbrev my_M_init : MethodName := ⟨mR_M, "<init>", "(I)V"⟩
abbrev mY_M_init : mj_Y := (mR_M, mc_M_init, 2, 1, 21, none, true)
abbrev mc_M_no : ByteArray := prog_12_method_2_code
abbrev my_M_no : MethodName := ⟨mR_M, "no", "(I)Z"⟩
abbrev mY_M_no : mj_Y := (mR_M, mc_M_no, 2, 0, 0, some (.boolean), false)
abbrev mc_M_task : ByteArray := prog_12_method_3_code
abbrev my_M_task : MethodName := ⟨mR_M, "task", "(IIIZ)I"⟩
abbrev mY_M_task : mj_Y := (mR_M, mc_M_task, 5, 0, 0, some (.int), false)
abbrev mc_M_good : ByteArray := prog_12_method_4_code
abbrev my_M_good : MethodName := ⟨mR_M, "good", "(IJ)Z"⟩
abbrev mY_M_good : mj_Y := (mR_M, mc_M_good, 3, 0, 0, some (.boolean), false)
abbrev mc_M_part : ByteArray := prog_12_method_5_code
abbrev my_M_part : MethodName := ⟨mR_M, "part", "(IIJ)I"⟩
abbrev mY_M_part : mj_Y := (mR_M, mc_M_part, 7, 1, 22, some (.int), false)
abbrev mc_M_manner : ByteArray := prog_12_method_6_code
abbrev my_M_manner : MethodName := ⟨mR_M, "manner", "(IZ)I"⟩
abbrev mY_M_manner : mj_Y := (mR_M, mc_M_manner, 3, 1, 21, some (.int), false)
abbrev mc_M_activate : ByteArray := prog_12_method_7_code
abbrev my_M_activate : MethodName := ⟨mR_M, "activate", "(IJ)I"⟩
abbrev mY_M_activate : mj_Y := (mR_M, mc_M_activate, 4, 1, 21, some (.int), false)
abbrev mc_M_interrupt : ByteArray := prog_12_method_8_code
abbrev my_M_interrupt : MethodName := ⟨mR_M, "interrupt", "(IJJ)I"⟩
abbrev mY_M_interrupt : mj_Y := (mR_M, mc_M_interrupt, 6, 0, 0, some (.int), false)
abbrev mc_M_tell : ByteArray := prog_12_method_9_code
abbrev my_M_tell : MethodName := ⟨mR_M, "tell", "(II)V"⟩
abbrev mY_M_tell : mj_Y := (mR_M, mc_M_tell, 3, 0, 0, none, false)
abbrev mc_M_ready : ByteArray := prog_12_method_10_code
abbrev my_M_ready : MethodName := ⟨mR_M, "ready", "(I)V"⟩
abbrev mY_M_ready : mj_Y := (mR_M, mc_M_ready, 2, 0, 0, none, false)
abbrev mc_M_begin : ByteArray := prog_12_method_11_code
abbrev my_M_begin : MethodName := ⟨mR_M, "begin", "(I)V"⟩
abbrev mY_M_begin : mj_Y := (mR_M, mc_M_begin, 2, 1, 22, none, false)
abbrev mc_M_set : ByteArray := prog_12_method_12_code
abbrev my_M_set : MethodName := ⟨mR_M, "set", "(II)Z"⟩
abbrev mY_M_set : mj_Y := (mR_M, mc_M_set, 3, 1, 21, some (.boolean), false)
abbrev mc_M_unlock : ByteArray := prog_12_method_13_code
abbrev my_M_unlock : MethodName := ⟨mR_M, "unlock", "(I)V"⟩
abbrev mY_M_unlock : mj_Y := (mR_M, mc_M_unlock, 4, 0, 0, none, false)
abbrev mc_M_holdsSome : ByteArray := prog_12_method_14_code
abbrev my_M_holdsSome : MethodName := ⟨mR_M, "holdsSome", "(I)Z"⟩
abbrev mY_M_holdsSome : mj_Y := (mR_M, mc_M_holdsSome, 4, 0, 0, some (.boolean), false)
abbrev mc_M_free : ByteArray := prog_12_method_15_code
abbrev my_M_free : MethodName := ⟨mR_M, "free", "(I)V"⟩
abbrev mY_M_free : mj_Y := (mR_M, mc_M_free, 4, 1, 23, none, false)
abbrev mc_M_ends : ByteArray := prog_12_method_16_code
abbrev my_M_ends : MethodName := ⟨mR_M, "ends", "(I)V"⟩
abbrev mY_M_ends : mj_Y := (mR_M, mc_M_ends, 2, 2, 46, none, false)
abbrev mc_M_nextPart : ByteArray := prog_12_method_17_code
abbrev my_M_nextPart : MethodName := ⟨mR_M, "nextPart", "(I)I"⟩
abbrev mY_M_nextPart : mj_Y := (mR_M, mc_M_nextPart, 4, 0, 0, some (.int), false)
abbrev mc_M_act : ByteArray := prog_12_method_18_code
abbrev my_M_act : MethodName := ⟨mR_M, "act", "(IIJ)V"⟩
abbrev mY_M_act : mj_Y := (mR_M, mc_M_act, 8, 4, 89, none, false)
abbrev mc_M_chain : ByteArray := prog_12_method_19_code
abbrev my_M_chain : MethodName := ⟨mR_M, "chain", "(II)V"⟩
abbrev mY_M_chain : mj_Y := (mR_M, mc_M_chain, 3, 3, 67, none, false)
abbrev mc_M_height : ByteArray := prog_12_method_20_code
abbrev my_M_height : MethodName := ⟨mR_M, "height", "(I)I"⟩
abbrev mY_M_height : mj_Y := (mR_M, mc_M_height, 4, 0, 0, some (.int), false)
abbrev mc_M_findCeilings : ByteArray := prog_12_method_21_code
abbrev my_M_findCeilings : MethodName := ⟨mR_M, "findCeilings", "()V"⟩
abbrev mY_M_findCeilings : mj_Y := (mR_M, mc_M_findCeilings, 3, 0, 0, none, false)
abbrev mc_M_runningOf : ByteArray := prog_12_method_22_code
abbrev my_M_runningOf : MethodName := ⟨mR_M, "runningOf", "(I)I"⟩
abbrev mY_M_runningOf : mj_Y := (mR_M, mc_M_runningOf, 4, 0, 0, some (.int), false)
abbrev mc_M_choose : ByteArray := prog_12_method_23_code
abbrev my_M_choose : MethodName := ⟨mR_M, "choose", "(I)I"⟩
abbrev mY_M_choose : mj_Y := (mR_M, mc_M_choose, 7, 1, 23, some (.int), false)
abbrev mc_M_atHand : ByteArray := prog_12_method_24_code
abbrev my_M_atHand : MethodName := ⟨mR_M, "atHand", "()I"⟩
abbrev mY_M_atHand : mj_Y := (mR_M, mc_M_atHand, 4, 0, 0, some (.int), false)
abbrev mc_M_step : ByteArray := prog_12_method_25_code
abbrev my_M_step : MethodName := ⟨mR_M, "step", "(I)Z"⟩
abbrev mY_M_step : mj_Y := (mR_M, mc_M_step, 4, 5, 116, some (.boolean), false)
abbrev mc_M_pass : ByteArray := prog_12_method_26_code
abbrev my_M_pass : MethodName := ⟨mR_M, "pass", "(I)V"⟩
abbrev mY_M_pass : mj_Y := (mR_M, mc_M_pass, 2, 1, 23, none, false)
abbrev mc_M_microsecond : ByteArray := prog_12_method_27_code
abbrev my_M_microsecond : MethodName := ⟨mR_M, "microsecond", "()I"⟩
abbrev mY_M_microsecond : mj_Y := (mR_M, mc_M_microsecond, 8, 6, 139, some (.int), false)
abbrev mc_M_run : ByteArray := prog_12_method_28_code
abbrev my_M_run : MethodName := ⟨mR_M, "run", "(J)I"⟩
abbrev mY_M_run : mj_Y := (mR_M, mc_M_run, 6, 7, 166, some (.int), false)
abbrev mc_M_now : ByteArray := prog_12_method_29_code
abbrev my_M_now : MethodName := ⟨mR_M, "now", "()J"⟩
abbrev mY_M_now : mj_Y := (mR_M, mc_M_now, 1, 0, 0, some (.long), false)
abbrev mc_M_running : ByteArray := prog_12_method_30_code
abbrev my_M_running : MethodName := ⟨mR_M, "running", "(IJ)I"⟩
abbrev mY_M_running : mj_Y := (mR_M, mc_M_running, 4, 0, 0, some (.int), false)
abbrev mc_M_used : ByteArray := prog_12_method_31_code
abbrev my_M_used : MethodName := ⟨mR_M, "used", "(I)J"⟩
abbrev mY_M_used : mj_Y := (mR_M, mc_M_used, 2, 1, 21, some (.long), false)
abbrev mc_M_state : ByteArray := prog_12_method_32_code
abbrev my_M_state : MethodName := ⟨mR_M, "state", "(I)I"⟩
abbrev mY_M_state : mj_Y := (mR_M, mc_M_state, 2, 1, 21, some (.int), false)
abbrev mc_M_event : ByteArray := prog_12_method_33_code
abbrev my_M_event : MethodName := ⟨mR_M, "event", "(II)I"⟩
abbrev mY_M_event : mj_Y := (mR_M, mc_M_event, 3, 2, 43, some (.int), false)
abbrev mc_M_events : ByteArray := prog_12_method_34_code
abbrev my_M_events : MethodName := ⟨mR_M, "events", "(I)I"⟩
abbrev mY_M_events : mj_Y := (mR_M, mc_M_events, 2, 1, 21, some (.int), false)
abbrev mc_M_code : ByteArray := prog_12_method_35_code
abbrev my_M_code : MethodName := ⟨mR_M, "code", "(II)I"⟩
abbrev mY_M_code : mj_Y := (mR_M, mc_M_code, 3, 0, 0, some (.int), false)
abbrev mc_M_isSwitch : ByteArray := prog_12_method_36_code
abbrev my_M_isSwitch : MethodName := ⟨mR_M, "isSwitch", "(II)Z"⟩
abbrev mY_M_isSwitch : mj_Y := (mR_M, mc_M_isSwitch, 3, 0, 0, some (.boolean), false)
abbrev mc_M_order : ByteArray := prog_12_method_37_code
abbrev my_M_order : MethodName := ⟨mR_M, "order", "(II)I"⟩
abbrev mY_M_order : mj_Y := (mR_M, mc_M_order, 7, 1, 22, some (.int), false)
abbrev mc_M_spin : ByteArray := prog_12_method_38_code
abbrev my_M_spin : MethodName := ⟨mR_M, "spin", "(II)I"⟩
abbrev mY_M_spin : mj_Y := (mR_M, mc_M_spin, 5, 0, 0, some (.int), false)
abbrev mc_M_holder : ByteArray := prog_12_method_39_code
abbrev my_M_holder : MethodName := ⟨mR_M, "holder", "(I)I"⟩
abbrev mY_M_holder : mj_Y := (mR_M, mc_M_holder, 2, 0, 0, some (.int), false)
abbrev mc_C_init : ByteArray := prog_2_method_1_code
abbrev my_C_init : MethodName := ⟨mR_C, "<init>", "(I)V"⟩
abbrev mY_C_init : mj_Y := (mR_C, mc_C_init, 2, 2, 42, none, true)
abbrev mc_C_addTask : ByteArray := prog_2_method_2_code
abbrev my_C_addTask : MethodName := ⟨mR_C, "addTask", "(LTaskCores$Task;)V"⟩
abbrev mY_C_addTask : mj_Y := (mR_C, mc_C_addTask, 2, 0, 0, none, false)
abbrev mc_C_noteWho : ByteArray := prog_2_method_3_code
abbrev my_C_noteWho : MethodName := ⟨mR_C, "noteWho", "(II)V"⟩
abbrev mY_C_noteWho : mj_Y := (mR_C, mc_C_noteWho, 3, 1, 25, none, false)
abbrev mc_C_whoAt : ByteArray := prog_2_method_4_code
abbrev my_C_whoAt : MethodName := ⟨mR_C, "whoAt", "(I)I"⟩
abbrev mY_C_whoAt : mj_Y := (mR_C, mc_C_whoAt, 6, 1, 23, some (.int), false)
abbrev mc_I_init : ByteArray := prog_3_method_1_code
abbrev my_I_init : MethodName := ⟨mR_I, "<init>", "(III)V"⟩
abbrev mY_I_init : mj_Y := (mR_I, mc_I_init, 4, 1, 21, none, true)
abbrev mc_U_init : ByteArray := prog_4_method_1_code
abbrev my_U_init : MethodName := ⟨mR_U, "<init>", "()V"⟩
abbrev mY_U_init : mj_Y := (mR_U, mc_U_init, 1, 1, 21, none, true)
abbrev mc_U_add : ByteArray := prog_4_method_2_code
abbrev my_U_add : MethodName := ⟨mR_U, "add", "(LTaskCores$Interrupt;)V"⟩
abbrev mY_U_add : mj_Y := (mR_U, mc_U_add, 4, 0, 0, none, false)
abbrev mc_U_atHand : ByteArray := prog_4_method_3_code
abbrev my_U_atHand : MethodName := ⟨mR_U, "atHand", "(I)LTaskCores$Interrupt;"⟩
abbrev mY_U_atHand : mj_Y := (mR_U, mc_U_atHand, 3, 0, 0, some (.object "TaskCores$Interrupt"), false)
abbrev mc_U_nextChange : ByteArray := prog_4_method_4_code
abbrev my_U_nextChange : MethodName := ⟨mR_U, "nextChange", "(I)I"⟩
abbrev mY_U_nextChange : mj_Y := (mR_U, mc_U_nextChange, 4, 1, 21, some (.int), false)
abbrev mc_U_serve : ByteArray := prog_4_method_5_code
abbrev my_U_serve : MethodName := ⟨mR_U, "serve", "(LTaskCores$Interrupt;I)V"⟩
abbrev mY_U_serve : mj_Y := (mR_U, mc_U_serve, 4, 0, 0, none, false)
abbrev mc_L_init : ByteArray := prog_5_method_1_code
abbrev my_L_init : MethodName := ⟨mR_L, "<init>", "()V"⟩
abbrev mY_L_init : mj_Y := (mR_L, mc_L_init, 1, 1, 21, none, true)
abbrev mc_L_addToQueue : ByteArray := prog_5_method_2_code
abbrev my_L_addToQueue : MethodName := ⟨mR_L, "addToQueue", "(LTaskCores$Task;)V"⟩
abbrev mY_L_addToQueue : mj_Y := (mR_L, mc_L_addToQueue, 4, 0, 0, none, false)
abbrev mc_L_firstInQueueOf : ByteArray := prog_5_method_3_code
abbrev my_L_firstInQueueOf : MethodName := ⟨mR_L, "firstInQueueOf", "(LTaskCores$Core;)LTaskCores$Task;"⟩
abbrev mY_L_firstInQueueOf : mj_Y := (mR_L, mc_L_firstInQueueOf, 3, 0, 0, some (.object "TaskCores$Task"), false)
abbrev mc_L_handOn : ByteArray := prog_5_method_4_code
abbrev my_L_handOn : MethodName := ⟨mR_L, "handOn", "()V"⟩
abbrev mY_L_handOn : mj_Y := (mR_L, mc_L_handOn, 2, 0, 0, none, false)
abbrev mc_G_init : ByteArray := prog_6_method_1_code
abbrev my_G_init : MethodName := ⟨mR_G, "<init>", "(I)V"⟩
abbrev mY_G_init : mj_Y := (mR_G, mc_G_init, 2, 1, 21, none, true)
abbrev mc_G_add : ByteArray := prog_6_method_2_code
abbrev my_G_add : MethodName := ⟨mR_G, "add", "(III)V"⟩
abbrev mY_G_add : mj_Y := (mR_G, mc_G_add, 6, 0, 0, none, false)
abbrev mc_G_answer : ByteArray := prog_6_method_3_code
abbrev my_G_answer : MethodName := ⟨mR_G, "answer", "(II)I"⟩
abbrev mY_G_answer : mj_Y := (mR_G, mc_G_answer, 4, 0, 0, some (.int), false)
abbrev mc_P_init : ByteArray := prog_7_method_1_code
abbrev my_P_init : MethodName := ⟨mR_P, "<init>", "(II)V"⟩
abbrev mY_P_init : mj_Y := (mR_P, mc_P_init, 3, 1, 21, none, true)
abbrev mc_R_init : ByteArray := prog_8_method_1_code
abbrev my_R_init : MethodName := ⟨mR_R, "<init>", "()V"⟩
abbrev mY_R_init : mj_Y := (mR_R, mc_R_init, 1, 1, 21, none, true)
abbrev mc_K_init : ByteArray := prog_9_method_1_code
abbrev my_K_init : MethodName := ⟨mR_K, "<init>", "(IILTaskCores$Core;IZ)V"⟩
abbrev mY_K_init : mj_Y := (mR_K, mc_K_init, 6, 2, 43, none, true)
abbrev mc_K_addPart : ByteArray := prog_9_method_2_code
abbrev my_K_addPart : MethodName := ⟨mR_K, "addPart", "(LTaskCores$Part;)I"⟩
abbrev mY_K_addPart : mj_Y := (mR_K, mc_K_addPart, 5, 0, 0, some (.int), false)
abbrev mc_K_mayBeSet : ByteArray := prog_9_method_3_code
abbrev my_K_mayBeSet : MethodName := ⟨mR_K, "mayBeSet", "()Z"⟩
abbrev mY_K_mayBeSet : mj_Y := (mR_K, mc_K_mayBeSet, 1, 0, 0, some (.boolean), false)
abbrev mc_K_height : ByteArray := prog_9_method_4_code
abbrev my_K_height : MethodName := ⟨mR_K, "height", "()I"⟩
abbrev mY_K_height : mj_Y := (mR_K, mc_K_height, 3, 1, 21, some (.int), false)
abbrev mc_K_comesBefore : ByteArray := prog_9_method_5_code
abbrev my_K_comesBefore : MethodName := ⟨mR_K, "comesBefore", "(LTaskCores$Task;)Z"⟩
abbrev mY_K_comesBefore : mj_Y := (mR_K, mc_K_comesBefore, 4, 2, 43, some (.boolean), false)
abbrev mc_K_leftOfPart : ByteArray := prog_9_method_6_code
abbrev my_K_leftOfPart : MethodName := ⟨mR_K, "leftOfPart", "()I"⟩
abbrev mY_K_leftOfPart : mj_Y := (mR_K, mc_K_leftOfPart, 1, 0, 0, some (.int), false)
abbrev mc_K_spend : ByteArray := prog_9_method_7_code
abbrev my_K_spend : MethodName := ⟨mR_K, "spend", "(I)V"⟩
abbrev mY_K_spend : mj_Y := (mR_K, mc_K_spend, 2, 0, 0, none, false)
abbrev mc_E_init : ByteArray := prog_10_method_1_code
abbrev my_E_init : MethodName := ⟨mR_E, "<init>", "(LTaskCores$Task;I)V"⟩
abbrev mY_E_init : mj_Y := (mR_E, mc_E_init, 3, 1, 21, none, true)
abbrev mc_W_cell : ByteArray := method_2_code
abbrev my_W_cell : MethodName := ⟨mR_W, "cell", "([II)I"⟩
abbrev mY_W_cell : mj_Y := (mR_W, mc_W_cell, 2, 0, 0, some (.int), false)
abbrev mc_W_law : ByteArray := code
abbrev my_W_law : MethodName := ⟨mR_W, "law", "([I)Z"⟩
abbrev mY_W_law : mj_Y := (mR_W, mc_W_law, 4, 8, 191, some (.boolean), false)
theorem kw_T : ∀ w ∈ u_ws mR_T mF_T 13, w ∈ md_Ts := by
  intro w hw
  have hp : u_ws mR_T mF_T 13 = ([150, 152, 154, 156, 158, 160, 162, 164, 166, 168, 170, 172, 174] : List Nat).filterMap (fun i => tables_1[i]?) := by decide +kernel
  have hg : (u_ws mR_T mF_T 13).all goodWord = true := by decide +kernel
  have h1 := List.all_eq_true.mp hg w hw
  rw [hp] at hw
  obtain ⟨i, -, hi⟩ := List.mem_filterMap.mp hw
  exact List.mem_filter.mpr ⟨List.mem_append_right _ (List.mem_of_getElem? hi), h1⟩
theorem kdv_T : ∀ k, k < 13 → defaultValue (md_ty 0 k) = mj_dv (md_ty 0 k) := by decide +kernel
theorem kc_T : mj_Cl 0 mR_T mF_T 13 := ⟨by decide, rfl, by decide +kernel, by decide +kernel, fun w hw => kw_T w hw⟩
theorem kw_C : ∀ w ∈ u_ws mR_C mF_C 7, w ∈ md_Ts := by
  intro w hw
  have hp : u_ws mR_C mF_C 7 = ([91, 93, 95, 97, 99, 101, 103] : List Nat).filterMap (fun i => tables_1[i]?) := by decide +kernel
  have hg : (u_ws mR_C mF_C 7).all goodWord = true := by decide +kernel
  have h1 := List.all_eq_true.mp hg w hw
  rw [hp] at hw
  obtain ⟨i, -, hi⟩ := List.mem_filterMap.mp hw
  exact List.mem_filter.mpr ⟨List.mem_append_right _ (List.mem_of_getElem? hi), h1⟩
theorem kdv_C : ∀ k, k < 7 → defaultValue (md_ty 1 k) = mj_dv (md_ty 1 k) := by decide +kernel
theorem kc_C : mj_Cl 1 mR_C mF_C 7 := ⟨by decide, rfl, by decide +kernel, by decide +kernel, fun w hw => kw_C w hw⟩
theorem kw_I : ∀ w ∈ u_ws mR_I mF_I 4, w ∈ md_Ts := by
  intro w hw
  have hp : u_ws mR_I mF_I 4 = ([372, 374, 376, 378] : List Nat).filterMap (fun i => tables_1[i]?) := by decide +kernel
  have hg : (u_ws mR_I mF_I 4).all goodWord = true := by decide +kernel
  have h1 := List.all_eq_true.mp hg w hw
  rw [hp] at hw
  obtain ⟨i, -, hi⟩ := List.mem_filterMap.mp hw
  exact List.mem_filter.mpr ⟨List.mem_append_right _ (List.mem_of_getElem? hi), h1⟩
theorem kdv_I : ∀ k, k < 4 → defaultValue (md_ty 2 k) = mj_dv (md_ty 2 k) := by decide +kernel
theorem kc_I : mj_Cl 2 mR_I mF_I 4 := ⟨by decide, rfl, by decide +kernel, by decide +kernel, fun w hw => kw_I w hw⟩
theorem kw_U : ∀ w ∈ u_ws mR_U mF_U 4, w ∈ md_Ts := by
  intro w hw
  have hp : u_ws mR_U mF_U 4 = ([40, 42, 44, 46] : List Nat).filterMap (fun i => tables_1[i]?) := by decide +kernel
  have hg : (u_ws mR_U mF_U 4).all goodWord = true := by decide +kernel
  have h1 := List.all_eq_true.mp hg w hw
  rw [hp] at hw
  obtain ⟨i, -, hi⟩ := List.mem_filterMap.mp hw
  exact List.mem_filter.mpr ⟨List.mem_append_right _ (List.mem_of_getElem? hi), h1⟩
theorem kdv_U : ∀ k, k < 4 → defaultValue (md_ty 3 k) = mj_dv (md_ty 3 k) := by decide +kernel
theorem kc_U : mj_Cl 3 mR_U mF_U 4 := ⟨by decide, rfl, by decide +kernel, by decide +kernel, fun w hw => kw_U w hw⟩
theorem kw_L : ∀ w ∈ u_ws mR_L mF_L 2, w ∈ md_Ts := by
  intro w hw
  have hp : u_ws mR_L mF_L 2 = ([131, 133] : List Nat).filterMap (fun i => tables_1[i]?) := by decide +kernel
  have hg : (u_ws mR_L mF_L 2).all goodWord = true := by decide +kernel
  have h1 := List.all_eq_true.mp hg w hw
  rw [hp] at hw
  obtain ⟨i, -, hi⟩ := List.mem_filterMap.mp hw
  exact List.mem_filter.mpr ⟨List.mem_append_right _ (List.mem_of_getElem? hi), h1⟩
theorem kdv_L : ∀ k, k < 2 → defaultValue (md_ty 4 k) = mj_dv (md_ty 4 k) := by decide +kernel
theorem kc_L : mj_Cl 4 mR_L mF_L 2 := ⟨by decide, rfl, by decide +kernel, by decide +kernel, fun w hw => kw_L w hw⟩
theorem kw_G : ∀ w ∈ u_ws mR_G mF_G 3, w ∈ md_Ts := by
  intro w hw
  have hp : u_ws mR_G mF_G 3 = ([64, 66, 68] : List Nat).filterMap (fun i => tables_1[i]?) := by decide +kernel
  have hg : (u_ws mR_G mF_G 3).all goodWord = true := by decide +kernel
  have h1 := List.all_eq_true.mp hg w hw
  rw [hp] at hw
  obtain ⟨i, -, hi⟩ := List.mem_filterMap.mp hw
  exact List.mem_filter.mpr ⟨List.mem_append_right _ (List.mem_of_getElem? hi), h1⟩
theorem kdv_G : ∀ k, k < 3 → defaultValue (md_ty 5 k) = mj_dv (md_ty 5 k) := by decide +kernel
theorem kc_G : mj_Cl 5 mR_G mF_G 3 := ⟨by decide, rfl, by decide +kernel, by decide +kernel, fun w hw => kw_G w hw⟩
theorem kw_P : ∀ w ∈ u_ws mR_P mF_P 3, w ∈ md_Ts := by
  intro w hw
  have hp : u_ws mR_P mF_P 3 = ([205, 207, 209] : List Nat).filterMap (fun i => tables_1[i]?) := by decide +kernel
  have hg : (u_ws mR_P mF_P 3).all goodWord = true := by decide +kernel
  have h1 := List.all_eq_true.mp hg w hw
  rw [hp] at hw
  obtain ⟨i, -, hi⟩ := List.mem_filterMap.mp hw
  exact List.mem_filter.mpr ⟨List.mem_append_right _ (List.mem_of_getElem? hi), h1⟩
theorem kdv_P : ∀ k, k < 3 → defaultValue (md_ty 6 k) = mj_dv (md_ty 6 k) := by decide +kernel
theorem kc_P : mj_Cl 6 mR_P mF_P 3 := ⟨by decide, rfl, by decide +kernel, by decide +kernel, fun w hw => kw_P w hw⟩
theorem kw_R : ∀ w ∈ u_ws mR_R mF_R 3, w ∈ md_Ts := by
  intro w hw
  have hp : u_ws mR_R mF_R 3 = ([116, 118, 120] : List Nat).filterMap (fun i => tables_1[i]?) := by decide +kernel
  have hg : (u_ws mR_R mF_R 3).all goodWord = true := by decide +kernel
  have h1 := List.all_eq_true.mp hg w hw
  rw [hp] at hw
  obtain ⟨i, -, hi⟩ := List.mem_filterMap.mp hw
  exact List.mem_filter.mpr ⟨List.mem_append_right _ (List.mem_of_getElem? hi), h1⟩
theorem kdv_R : ∀ k, k < 3 → defaultValue (md_ty 7 k) = mj_dv (md_ty 7 k) := by decide +kernel
theorem kc_R : mj_Cl 7 mR_R mF_R 3 := ⟨by decide, rfl, by decide +kernel, by decide +kernel, fun w hw => kw_R w hw⟩
theorem kw_K : ∀ w ∈ u_ws mR_K mF_K 19, w ∈ md_Ts := by
  intro w hw
  have hp : u_ws mR_K mF_K 19 = ([247, 249, 251, 253, 255, 257, 259, 261, 263, 265, 267, 269, 271, 273, 275, 277, 279, 281, 283] : List Nat).filterMap (fun i => tables_1[i]?) := by decide +kernel
  have hg : (u_ws mR_K mF_K 19).all goodWord = true := by decide +kernel
  have h1 := List.all_eq_true.mp hg w hw
  rw [hp] at hw
  obtain ⟨i, -, hi⟩ := List.mem_filterMap.mp hw
  exact List.mem_filter.mpr ⟨List.mem_append_right _ (List.mem_of_getElem? hi), h1⟩
theorem kdv_K : ∀ k, k < 19 → defaultValue (md_ty 8 k) = mj_dv (md_ty 8 k) := by decide +kernel
theorem kc_K : mj_Cl 8 mR_K mF_K 19 := ⟨by decide, rfl, by decide +kernel, by decide +kernel, fun w hw => kw_K w hw⟩
theorem kw_E : ∀ w ∈ u_ws mR_E mF_E 3, w ∈ md_Ts := by
  intro w hw
  have hp : u_ws mR_E mF_E 3 = ([341, 343, 345] : List Nat).filterMap (fun i => tables_1[i]?) := by decide +kernel
  have hg : (u_ws mR_E mF_E 3).all goodWord = true := by decide +kernel
  have h1 := List.all_eq_true.mp hg w hw
  rw [hp] at hw
  obtain ⟨i, -, hi⟩ := List.mem_filterMap.mp hw
  exact List.mem_filter.mpr ⟨List.mem_append_right _ (List.mem_of_getElem? hi), h1⟩
theorem kdv_E : ∀ k, k < 3 → defaultValue (md_ty 9 k) = mj_dv (md_ty 9 k) := by decide +kernel
theorem kc_E : mj_Cl 9 mR_E mF_E 3 := ⟨by decide, rfl, by decide +kernel, by decide +kernel, fun w hw => kw_E w hw⟩
theorem kw_M : ∀ w ∈ u_ws mR_M mF_M 45, w ∈ md_Ts := by
  intro w hw
  have hp : u_ws mR_M mF_M 45 = ([668, 670, 672, 674, 676, 678, 680, 682, 684, 686, 688, 690, 692, 694, 696, 698, 700, 702, 704, 706, 708, 710, 712, 714, 716, 718, 720, 722, 724, 726, 728, 730, 732, 734, 736, 738, 740, 742, 744, 746, 748, 750, 752, 754, 756] : List Nat).filterMap (fun i => tables_1[i]?) := by decide +kernel
  have hg : (u_ws mR_M mF_M 45).all goodWord = true := by decide +kernel
  have h1 := List.all_eq_true.mp hg w hw
  rw [hp] at hw
  obtain ⟨i, -, hi⟩ := List.mem_filterMap.mp hw
  exact List.mem_filter.mpr ⟨List.mem_append_right _ (List.mem_of_getElem? hi), h1⟩
theorem kdv_M : ∀ k, k < 45 → defaultValue (md_ty 10 k) = mj_dv (md_ty 10 k) := by decide +kernel
theorem kc_M : mj_Cl 10 mR_M mF_M 45 := ⟨by decide, rfl, by decide +kernel, by decide +kernel, fun w hw => kw_M w hw⟩
theorem mj_bn {x : Int32} (h : x = 0 ∨ x = 1) : narrow .boolean (.int x) = .int x := by rcases h with rfl | rfl <;> decide
theorem mj_bf {x : Int32} (h : x = 0 ∨ x = 1) : fits .boolean (.int x) = true := by rcases h with rfl | rfl <;> decide
end
section
theorem md_T_init_0 : decode mc_T_init 0 = .ok (.aload_n 0, 1) := by decide +kernel
theorem md_T_init_1 : decode mc_T_init 1 = .ok (.invokespecial 1, 3) := by decide +kernel
theorem md_T_init_4 : decode mc_T_init 4 = .ok (.aload_n 0, 1) := by decide +kernel
theorem md_T_init_5 : decode mc_T_init 5 = .ok (.bipush 101, 2) := by decide +kernel
theorem md_T_init_7 : decode mc_T_init 7 = .ok (.anewarray 9, 3) := by decide +kernel
theorem md_T_init_10 : decode mc_T_init 10 = .ok (.putfield 11, 3) := by decide +kernel
theorem md_T_init_13 : decode mc_T_init 13 = .ok (.aload_n 0, 1) := by decide +kernel
theorem md_T_init_14 : decode mc_T_init 14 = .ok (.bipush 33, 2) := by decide +kernel
theorem md_T_init_16 : decode mc_T_init 16 = .ok (.anewarray 15, 3) := by decide +kernel
theorem md_T_init_19 : decode mc_T_init 19 = .ok (.putfield 17, 3) := by decide +kernel
theorem md_T_init_22 : decode mc_T_init 22 = .ok (.aload_n 0, 1) := by decide +kernel
theorem md_T_init_23 : decode mc_T_init 23 = .ok (.bipush 17, 2) := by decide +kernel
theorem md_T_init_25 : decode mc_T_init 25 = .ok (.anewarray 21, 3) := by decide +kernel
theorem md_T_init_28 : decode mc_T_init 28 = .ok (.putfield 23, 3) := by decide +kernel
theorem md_T_init_31 : decode mc_T_init 31 = .ok (.aload_n 0, 1) := by decide +kernel
theorem md_T_init_32 : decode mc_T_init 32 = .ok (.new 27, 3) := by decide +kernel
theorem md_T_init_35 : decode mc_T_init 35 = .ok (.dup, 1) := by decide +kernel
theorem md_T_init_36 : decode mc_T_init 36 = .ok (.invokespecial 29, 3) := by decide +kernel
theorem md_T_init_39 : decode mc_T_init 39 = .ok (.putfield 30, 3) := by decide +kernel
theorem md_T_init_42 : decode mc_T_init 42 = .ok (.aload_n 0, 1) := by decide +kernel
theorem md_T_init_43 : decode mc_T_init 43 = .ok (.new 34, 3) := by decide +kernel
theorem md_T_init_46 : decode mc_T_init 46 = .ok (.dup, 1) := by decide +kernel
theorem md_T_init_47 : decode mc_T_init 47 = .ok (.sipush 1000, 3) := by decide +kernel
theorem md_T_init_50 : decode mc_T_init 50 = .ok (.invokespecial 36, 3) := by decide +kernel
theorem md_T_init_53 : decode mc_T_init 53 = .ok (.putfield 39, 3) := by decide +kernel
theorem md_T_init_56 : decode mc_T_init 56 = .ok (.iload_n 1, 1) := by decide +kernel
theorem md_T_init_57 : decode mc_T_init 57 = .ok (.iconst 1, 1) := by decide +kernel
theorem md_T_init_58 : decode mc_T_init 58 = .ok (.if_icmp .lt 9, 3) := by decide +kernel
theorem md_T_init_61 : decode mc_T_init 61 = .ok (.iload_n 1, 1) := by decide +kernel
theorem md_T_init_62 : decode mc_T_init 62 = .ok (.bipush 8, 2) := by decide +kernel
theorem md_T_init_64 : decode mc_T_init 64 = .ok (.if_icmp .le 7, 3) := by decide +kernel
theorem md_T_init_67 : decode mc_T_init 67 = .ok (.iconst 1, 1) := by decide +kernel
theorem md_T_init_68 : decode mc_T_init 68 = .ok (.goto 4, 3) := by decide +kernel
theorem md_T_init_71 : decode mc_T_init 71 = .ok (.iload_n 1, 1) := by decide +kernel
theorem md_T_init_72 : decode mc_T_init 72 = .ok (.istore_n 2, 1) := by decide +kernel
theorem md_T_init_73 : decode mc_T_init 73 = .ok (.aload_n 0, 1) := by decide +kernel
theorem md_T_init_74 : decode mc_T_init 74 = .ok (.iload_n 2, 1) := by decide +kernel
theorem md_T_init_75 : decode mc_T_init 75 = .ok (.anewarray 43, 3) := by decide +kernel
theorem md_T_init_78 : decode mc_T_init 78 = .ok (.putfield 45, 3) := by decide +kernel
theorem md_T_init_81 : decode mc_T_init 81 = .ok (.iconst 0, 1) := by decide +kernel
theorem md_T_init_82 : decode mc_T_init 82 = .ok (.istore_n 3, 1) := by decide +kernel
theorem md_T_init_83 : decode mc_T_init 83 = .ok (.iload_n 3, 1) := by decide +kernel
theorem md_T_init_84 : decode mc_T_init 84 = .ok (.iload_n 2, 1) := by decide +kernel
theorem md_T_init_85 : decode mc_T_init 85 = .ok (.if_icmp .ge 23, 3) := by decide +kernel
theorem md_T_init_88 : decode mc_T_init 88 = .ok (.aload_n 0, 1) := by decide +kernel
theorem md_T_init_89 : decode mc_T_init 89 = .ok (.getfield 45, 3) := by decide +kernel
theorem md_T_init_92 : decode mc_T_init 92 = .ok (.iload_n 3, 1) := by decide +kernel
theorem md_T_init_93 : decode mc_T_init 93 = .ok (.new 43, 3) := by decide +kernel
theorem md_T_init_96 : decode mc_T_init 96 = .ok (.dup, 1) := by decide +kernel
theorem md_T_init_97 : decode mc_T_init 97 = .ok (.iload_n 3, 1) := by decide +kernel
theorem md_T_init_98 : decode mc_T_init 98 = .ok (.invokespecial 49, 3) := by decide +kernel
theorem md_T_init_101 : decode mc_T_init 101 = .ok (.aastore, 1) := by decide +kernel
theorem md_T_init_102 : decode mc_T_init 102 = .ok (.iinc 3 1, 3) := by decide +kernel
theorem md_T_init_105 : decode mc_T_init 105 = .ok (.goto (-22), 3) := by decide +kernel
theorem md_T_init_108 : decode mc_T_init 108 = .ok (.iconst 0, 1) := by decide +kernel
theorem md_T_init_109 : decode mc_T_init 109 = .ok (.istore_n 3, 1) := by decide +kernel
theorem md_T_init_110 : decode mc_T_init 110 = .ok (.iload_n 3, 1) := by decide +kernel
theorem md_T_init_111 : decode mc_T_init 111 = .ok (.aload_n 0, 1) := by decide +kernel
theorem md_T_init_112 : decode mc_T_init 112 = .ok (.getfield 17, 3) := by decide +kernel
theorem md_T_init_115 : decode mc_T_init 115 = .ok (.arraylength, 1) := by decide +kernel
theorem md_T_init_116 : decode mc_T_init 116 = .ok (.if_icmp .ge 22, 3) := by decide +kernel
theorem md_T_init_119 : decode mc_T_init 119 = .ok (.aload_n 0, 1) := by decide +kernel
theorem md_T_init_120 : decode mc_T_init 120 = .ok (.getfield 17, 3) := by decide +kernel
theorem md_T_init_123 : decode mc_T_init 123 = .ok (.iload_n 3, 1) := by decide +kernel
theorem md_T_init_124 : decode mc_T_init 124 = .ok (.new 15, 3) := by decide +kernel
theorem md_T_init_127 : decode mc_T_init 127 = .ok (.dup, 1) := by decide +kernel
theorem md_T_init_128 : decode mc_T_init 128 = .ok (.invokespecial 50, 3) := by decide +kernel
theorem md_T_init_131 : decode mc_T_init 131 = .ok (.aastore, 1) := by decide +kernel
theorem md_T_init_132 : decode mc_T_init 132 = .ok (.iinc 3 1, 3) := by decide +kernel
theorem md_T_init_135 : decode mc_T_init 135 = .ok (.goto (-25), 3) := by decide +kernel
theorem md_T_init_138 : decode mc_T_init 138 = .ok (.iconst 0, 1) := by decide +kernel
theorem md_T_init_139 : decode mc_T_init 139 = .ok (.istore_n 3, 1) := by decide +kernel
theorem md_T_init_140 : decode mc_T_init 140 = .ok (.iload_n 3, 1) := by decide +kernel
theorem md_T_init_141 : decode mc_T_init 141 = .ok (.aload_n 0, 1) := by decide +kernel
theorem md_T_init_142 : decode mc_T_init 142 = .ok (.getfield 23, 3) := by decide +kernel
theorem md_T_init_145 : decode mc_T_init 145 = .ok (.arraylength, 1) := by decide +kernel
theorem md_T_init_146 : decode mc_T_init 146 = .ok (.if_icmp .ge 22, 3) := by decide +kernel
theorem md_T_init_149 : decode mc_T_init 149 = .ok (.aload_n 0, 1) := by decide +kernel
theorem md_T_init_150 : decode mc_T_init 150 = .ok (.getfield 23, 3) := by decide +kernel
theorem md_T_init_153 : decode mc_T_init 153 = .ok (.iload_n 3, 1) := by decide +kernel
theorem md_T_init_154 : decode mc_T_init 154 = .ok (.new 21, 3) := by decide +kernel
theorem md_T_init_157 : decode mc_T_init 157 = .ok (.dup, 1) := by decide +kernel
theorem md_T_init_158 : decode mc_T_init 158 = .ok (.invokespecial 51, 3) := by decide +kernel
theorem md_T_init_161 : decode mc_T_init 161 = .ok (.aastore, 1) := by decide +kernel
theorem md_T_init_162 : decode mc_T_init 162 = .ok (.iinc 3 1, 3) := by decide +kernel
theorem md_T_init_165 : decode mc_T_init 165 = .ok (.goto (-25), 3) := by decide +kernel
theorem md_T_init_168 : decode mc_T_init 168 = .ok (.aload_n 0, 1) := by decide +kernel
theorem md_T_init_169 : decode mc_T_init 169 = .ok (.new 34, 3) := by decide +kernel
theorem md_T_init_172 : decode mc_T_init 172 = .ok (.dup, 1) := by decide +kernel
theorem md_T_init_173 : decode mc_T_init 173 = .ok (.ldc 52, 2) := by decide +kernel
theorem md_T_init_175 : decode mc_T_init 175 = .ok (.iload_n 2, 1) := by decide +kernel
theorem md_T_init_176 : decode mc_T_init 176 = .ok (.imul, 1) := by decide +kernel
theorem md_T_init_177 : decode mc_T_init 177 = .ok (.invokespecial 36, 3) := by decide +kernel
theorem md_T_init_180 : decode mc_T_init 180 = .ok (.putfield 53, 3) := by decide +kernel
theorem md_T_init_183 : decode mc_T_init 183 = .ok (.return_, 1) := by decide +kernel
theorem md_T_task_0 : decode mc_T_task 0 = .ok (.aload_n 0, 1) := by decide +kernel
theorem md_T_task_1 : decode mc_T_task 1 = .ok (.iload_n 2, 1) := by decide +kernel
theorem md_T_task_2 : decode mc_T_task 2 = .ok (.invokevirtual 56, 3) := by decide +kernel
theorem md_T_task_5 : decode mc_T_task 5 = .ok (.astore 5, 2) := by decide +kernel
theorem md_T_task_7 : decode mc_T_task 7 = .ok (.aload 5, 2) := by decide +kernel
theorem md_T_task_9 : decode mc_T_task 9 = .ok (.ifnonnull 5, 3) := by decide +kernel
theorem md_T_task_12 : decode mc_T_task 12 = .ok (.iconst (-1), 1) := by decide +kernel
theorem md_T_task_13 : decode mc_T_task 13 = .ok (.ireturn, 1) := by decide +kernel
theorem md_T_task_14 : decode mc_T_task 14 = .ok (.iload 4, 2) := by decide +kernel
theorem md_T_task_16 : decode mc_T_task 16 = .ok (.ifCond .eq 7, 3) := by decide +kernel
theorem md_T_task_19 : decode mc_T_task 19 = .ok (.iconst 1, 1) := by decide +kernel
theorem md_T_task_20 : decode mc_T_task 20 = .ok (.goto 5, 3) := by decide +kernel
theorem md_T_task_23 : decode mc_T_task 23 = .ok (.bipush 100, 2) := by decide +kernel
theorem md_T_task_25 : decode mc_T_task 25 = .ok (.istore 6, 2) := by decide +kernel
theorem md_T_task_27 : decode mc_T_task 27 = .ok (.iload_n 1, 1) := by decide +kernel
theorem md_T_task_28 : decode mc_T_task 28 = .ok (.ifCond .lt 21, 3) := by decide +kernel
theorem md_T_task_31 : decode mc_T_task 31 = .ok (.iload_n 1, 1) := by decide +kernel
theorem md_T_task_32 : decode mc_T_task 32 = .ok (.sipush 255, 3) := by decide +kernel
theorem md_T_task_35 : decode mc_T_task 35 = .ok (.if_icmp .gt 14, 3) := by decide +kernel
theorem md_T_task_38 : decode mc_T_task 38 = .ok (.iload_n 3, 1) := by decide +kernel
theorem md_T_task_39 : decode mc_T_task 39 = .ok (.iconst 1, 1) := by decide +kernel
theorem md_T_task_40 : decode mc_T_task 40 = .ok (.if_icmp .lt 9, 3) := by decide +kernel
theorem md_T_task_43 : decode mc_T_task 43 = .ok (.iload_n 3, 1) := by decide +kernel
theorem md_T_task_44 : decode mc_T_task 44 = .ok (.iload 6, 2) := by decide +kernel
theorem md_T_task_46 : decode mc_T_task 46 = .ok (.if_icmp .le 6, 3) := by decide +kernel
theorem md_T_task_49 : decode mc_T_task 49 = .ok (.bipush (-2), 2) := by decide +kernel
theorem md_T_task_51 : decode mc_T_task 51 = .ok (.ireturn, 1) := by decide +kernel
theorem md_T_task_52 : decode mc_T_task 52 = .ok (.aload_n 0, 1) := by decide +kernel
theorem md_T_task_53 : decode mc_T_task 53 = .ok (.getfield 60, 3) := by decide +kernel
theorem md_T_task_56 : decode mc_T_task 56 = .ok (.ifCond .le 6, 3) := by decide +kernel
theorem md_T_task_59 : decode mc_T_task 59 = .ok (.bipush (-3), 2) := by decide +kernel
theorem md_T_task_61 : decode mc_T_task 61 = .ok (.ireturn, 1) := by decide +kernel
theorem md_T_task_62 : decode mc_T_task 62 = .ok (.aload_n 0, 1) := by decide +kernel
theorem md_T_task_63 : decode mc_T_task 63 = .ok (.getfield 64, 3) := by decide +kernel
theorem md_T_task_66 : decode mc_T_task 66 = .ok (.bipush 100, 2) := by decide +kernel
theorem md_T_task_68 : decode mc_T_task 68 = .ok (.if_icmp .lt 6, 3) := by decide +kernel
theorem md_T_task_71 : decode mc_T_task 71 = .ok (.bipush (-4), 2) := by decide +kernel
theorem md_T_task_73 : decode mc_T_task 73 = .ok (.ireturn, 1) := by decide +kernel
theorem md_T_task_74 : decode mc_T_task 74 = .ok (.aload_n 0, 1) := by decide +kernel
theorem md_T_task_75 : decode mc_T_task 75 = .ok (.dup, 1) := by decide +kernel
theorem md_T_task_76 : decode mc_T_task 76 = .ok (.getfield 64, 3) := by decide +kernel
theorem md_T_task_79 : decode mc_T_task 79 = .ok (.iconst 1, 1) := by decide +kernel
theorem md_T_task_80 : decode mc_T_task 80 = .ok (.iadd, 1) := by decide +kernel
theorem md_T_task_81 : decode mc_T_task 81 = .ok (.putfield 64, 3) := by decide +kernel
theorem md_T_task_84 : decode mc_T_task 84 = .ok (.new 9, 3) := by decide +kernel
theorem md_T_task_87 : decode mc_T_task 87 = .ok (.dup, 1) := by decide +kernel
theorem md_T_task_88 : decode mc_T_task 88 = .ok (.aload_n 0, 1) := by decide +kernel
theorem md_T_task_89 : decode mc_T_task 89 = .ok (.getfield 64, 3) := by decide +kernel
theorem md_T_task_92 : decode mc_T_task 92 = .ok (.iload_n 1, 1) := by decide +kernel
theorem md_T_task_93 : decode mc_T_task 93 = .ok (.aload 5, 2) := by decide +kernel
theorem md_T_task_95 : decode mc_T_task 95 = .ok (.iload_n 3, 1) := by decide +kernel
theorem md_T_task_96 : decode mc_T_task 96 = .ok (.iload 4, 2) := by decide +kernel
theorem md_T_task_98 : decode mc_T_task 98 = .ok (.invokespecial 67, 3) := by decide +kernel
theorem md_T_task_101 : decode mc_T_task 101 = .ok (.astore 7, 2) := by decide +kernel
theorem md_T_task_103 : decode mc_T_task 103 = .ok (.aload_n 0, 1) := by decide +kernel
theorem md_T_task_104 : decode mc_T_task 104 = .ok (.getfield 11, 3) := by decide +kernel
theorem md_T_task_107 : decode mc_T_task 107 = .ok (.aload_n 0, 1) := by decide +kernel
theorem md_T_task_108 : decode mc_T_task 108 = .ok (.getfield 64, 3) := by decide +kernel
theorem md_T_task_111 : decode mc_T_task 111 = .ok (.aload 7, 2) := by decide +kernel
theorem md_T_task_113 : decode mc_T_task 113 = .ok (.aastore, 1) := by decide +kernel
theorem md_T_task_114 : decode mc_T_task 114 = .ok (.aload 5, 2) := by decide +kernel
theorem md_T_task_116 : decode mc_T_task 116 = .ok (.aload 7, 2) := by decide +kernel
theorem md_T_task_118 : decode mc_T_task 118 = .ok (.invokevirtual 70, 3) := by decide +kernel
theorem md_T_task_121 : decode mc_T_task 121 = .ok (.aload_n 0, 1) := by decide +kernel
theorem md_T_task_122 : decode mc_T_task 122 = .ok (.getfield 64, 3) := by decide +kernel
theorem md_T_task_125 : decode mc_T_task 125 = .ok (.ireturn, 1) := by decide +kernel
theorem md_T_part_0 : decode mc_T_part 0 = .ok (.aload_n 0, 1) := by decide +kernel
theorem md_T_part_1 : decode mc_T_part 1 = .ok (.iload_n 1, 1) := by decide +kernel
theorem md_T_part_2 : decode mc_T_part 2 = .ok (.invokevirtual 74, 3) := by decide +kernel
theorem md_T_part_5 : decode mc_T_part 5 = .ok (.astore 5, 2) := by decide +kernel
theorem md_T_part_7 : decode mc_T_part 7 = .ok (.aload 5, 2) := by decide +kernel
theorem md_T_part_9 : decode mc_T_part 9 = .ok (.ifnonnull 5, 3) := by decide +kernel
theorem md_T_part_12 : decode mc_T_part 12 = .ok (.iconst (-1), 1) := by decide +kernel
theorem md_T_part_13 : decode mc_T_part 13 = .ok (.ireturn, 1) := by decide +kernel
theorem md_T_part_14 : decode mc_T_part 14 = .ok (.iload_n 2, 1) := by decide +kernel
theorem md_T_part_15 : decode mc_T_part 15 = .ok (.lload_n 3, 1) := by decide +kernel
theorem md_T_part_16 : decode mc_T_part 16 = .ok (.invokestatic 78, 3) := by decide +kernel
theorem md_T_part_19 : decode mc_T_part 19 = .ok (.ifCond .ne 6, 3) := by decide +kernel
theorem md_T_part_22 : decode mc_T_part 22 = .ok (.bipush (-2), 2) := by decide +kernel
theorem md_T_part_24 : decode mc_T_part 24 = .ok (.ireturn, 1) := by decide +kernel
theorem md_T_part_25 : decode mc_T_part 25 = .ok (.aload_n 0, 1) := by decide +kernel
theorem md_T_part_26 : decode mc_T_part 26 = .ok (.getfield 60, 3) := by decide +kernel
theorem md_T_part_29 : decode mc_T_part 29 = .ok (.ifCond .le 6, 3) := by decide +kernel
theorem md_T_part_32 : decode mc_T_part 32 = .ok (.bipush (-3), 2) := by decide +kernel
theorem md_T_part_34 : decode mc_T_part 34 = .ok (.ireturn, 1) := by decide +kernel
theorem md_T_part_35 : decode mc_T_part 35 = .ok (.aload_n 0, 1) := by decide +kernel
theorem md_T_part_36 : decode mc_T_part 36 = .ok (.getfield 82, 3) := by decide +kernel
theorem md_T_part_39 : decode mc_T_part 39 = .ok (.sipush 500, 3) := by decide +kernel
theorem md_T_part_42 : decode mc_T_part 42 = .ok (.if_icmp .lt 6, 3) := by decide +kernel
theorem md_T_part_45 : decode mc_T_part 45 = .ok (.bipush (-4), 2) := by decide +kernel
theorem md_T_part_47 : decode mc_T_part 47 = .ok (.ireturn, 1) := by decide +kernel
theorem md_T_part_48 : decode mc_T_part 48 = .ok (.aload_n 0, 1) := by decide +kernel
theorem md_T_part_49 : decode mc_T_part 49 = .ok (.dup, 1) := by decide +kernel
theorem md_T_part_50 : decode mc_T_part 50 = .ok (.getfield 82, 3) := by decide +kernel
theorem md_T_part_53 : decode mc_T_part 53 = .ok (.iconst 1, 1) := by decide +kernel
theorem md_T_part_54 : decode mc_T_part 54 = .ok (.iadd, 1) := by decide +kernel
theorem md_T_part_55 : decode mc_T_part 55 = .ok (.putfield 82, 3) := by decide +kernel
theorem md_T_part_58 : decode mc_T_part 58 = .ok (.lload_n 3, 1) := by decide +kernel
theorem md_T_part_59 : decode mc_T_part 59 = .ok (.l2i, 1) := by decide +kernel
theorem md_T_part_60 : decode mc_T_part 60 = .ok (.istore 6, 2) := by decide +kernel
theorem md_T_part_62 : decode mc_T_part 62 = .ok (.iload_n 2, 1) := by decide +kernel
theorem md_T_part_63 : decode mc_T_part 63 = .ok (.bipush 6, 2) := by decide +kernel
theorem md_T_part_65 : decode mc_T_part 65 = .ok (.if_icmp .ne 34, 3) := by decide +kernel
theorem md_T_part_68 : decode mc_T_part 68 = .ok (.aload_n 0, 1) := by decide +kernel
theorem md_T_part_69 : decode mc_T_part 69 = .ok (.iload 6, 2) := by decide +kernel
theorem md_T_part_71 : decode mc_T_part 71 = .ok (.invokevirtual 85, 3) := by decide +kernel
theorem md_T_part_74 : decode mc_T_part 74 = .ok (.astore 7, 2) := by decide +kernel
theorem md_T_part_76 : decode mc_T_part 76 = .ok (.aload 7, 2) := by decide +kernel
theorem md_T_part_78 : decode mc_T_part 78 = .ok (.ifnull 21, 3) := by decide +kernel
theorem md_T_part_81 : decode mc_T_part 81 = .ok (.aload 7, 2) := by decide +kernel
theorem md_T_part_83 : decode mc_T_part 83 = .ok (.aload 7, 2) := by decide +kernel
theorem md_T_part_85 : decode mc_T_part 85 = .ok (.getfield 89, 3) := by decide +kernel
theorem md_T_part_88 : decode mc_T_part 88 = .ok (.aload 5, 2) := by decide +kernel
theorem md_T_part_90 : decode mc_T_part 90 = .ok (.getfield 92, 3) := by decide +kernel
theorem md_T_part_93 : decode mc_T_part 93 = .ok (.invokestatic 95, 3) := by decide +kernel
theorem md_T_part_96 : decode mc_T_part 96 = .ok (.putfield 89, 3) := by decide +kernel
theorem md_T_part_99 : decode mc_T_part 99 = .ok (.aload 5, 2) := by decide +kernel
theorem md_T_part_101 : decode mc_T_part 101 = .ok (.new 101, 3) := by decide +kernel
theorem md_T_part_104 : decode mc_T_part 104 = .ok (.dup, 1) := by decide +kernel
theorem md_T_part_105 : decode mc_T_part 105 = .ok (.iload_n 2, 1) := by decide +kernel
theorem md_T_part_106 : decode mc_T_part 106 = .ok (.iload 6, 2) := by decide +kernel
theorem md_T_part_108 : decode mc_T_part 108 = .ok (.invokespecial 103, 3) := by decide +kernel
theorem md_T_part_111 : decode mc_T_part 111 = .ok (.invokevirtual 106, 3) := by decide +kernel
theorem md_T_part_114 : decode mc_T_part 114 = .ok (.ireturn, 1) := by decide +kernel
theorem md_T_manner_0 : decode mc_T_manner 0 = .ok (.aload_n 0, 1) := by decide +kernel
theorem md_T_manner_1 : decode mc_T_manner 1 = .ok (.iload_n 1, 1) := by decide +kernel
theorem md_T_manner_2 : decode mc_T_manner 2 = .ok (.invokevirtual 74, 3) := by decide +kernel
theorem md_T_manner_5 : decode mc_T_manner 5 = .ok (.astore_n 3, 1) := by decide +kernel
theorem md_T_manner_6 : decode mc_T_manner 6 = .ok (.aload_n 3, 1) := by decide +kernel
theorem md_T_manner_7 : decode mc_T_manner 7 = .ok (.ifnonnull 5, 3) := by decide +kernel
theorem md_T_manner_10 : decode mc_T_manner 10 = .ok (.iconst (-1), 1) := by decide +kernel
theorem md_T_manner_11 : decode mc_T_manner 11 = .ok (.ireturn, 1) := by decide +kernel
theorem md_T_manner_12 : decode mc_T_manner 12 = .ok (.aload_n 0, 1) := by decide +kernel
theorem md_T_manner_13 : decode mc_T_manner 13 = .ok (.getfield 60, 3) := by decide +kernel
theorem md_T_manner_16 : decode mc_T_manner 16 = .ok (.ifCond .le 6, 3) := by decide +kernel
theorem md_T_manner_19 : decode mc_T_manner 19 = .ok (.bipush (-3), 2) := by decide +kernel
theorem md_T_manner_21 : decode mc_T_manner 21 = .ok (.ireturn, 1) := by decide +kernel
theorem md_T_manner_22 : decode mc_T_manner 22 = .ok (.aload_n 3, 1) := by decide +kernel
theorem md_T_manner_23 : decode mc_T_manner 23 = .ok (.iload_n 2, 1) := by decide +kernel
theorem md_T_manner_24 : decode mc_T_manner 24 = .ok (.putfield 110, 3) := by decide +kernel
theorem md_T_manner_27 : decode mc_T_manner 27 = .ok (.iconst 1, 1) := by decide +kernel
theorem md_T_manner_28 : decode mc_T_manner 28 = .ok (.ireturn, 1) := by decide +kernel
theorem md_T_activate_0 : decode mc_T_activate 0 = .ok (.aload_n 0, 1) := by decide +kernel
theorem md_T_activate_1 : decode mc_T_activate 1 = .ok (.iload_n 1, 1) := by decide +kernel
theorem md_T_activate_2 : decode mc_T_activate 2 = .ok (.invokevirtual 74, 3) := by decide +kernel
theorem md_T_activate_5 : decode mc_T_activate 5 = .ok (.astore 4, 2) := by decide +kernel
theorem md_T_activate_7 : decode mc_T_activate 7 = .ok (.aload 4, 2) := by decide +kernel
theorem md_T_activate_9 : decode mc_T_activate 9 = .ok (.ifnonnull 5, 3) := by decide +kernel
theorem md_T_activate_12 : decode mc_T_activate 12 = .ok (.iconst (-1), 1) := by decide +kernel
theorem md_T_activate_13 : decode mc_T_activate 13 = .ok (.ireturn, 1) := by decide +kernel
theorem md_T_activate_14 : decode mc_T_activate 14 = .ok (.aload_n 0, 1) := by decide +kernel
theorem md_T_activate_15 : decode mc_T_activate 15 = .ok (.lload_n 2, 1) := by decide +kernel
theorem md_T_activate_16 : decode mc_T_activate 16 = .ok (.invokevirtual 114, 3) := by decide +kernel
theorem md_T_activate_19 : decode mc_T_activate 19 = .ok (.ifCond .ne 6, 3) := by decide +kernel
theorem md_T_activate_22 : decode mc_T_activate 22 = .ok (.bipush (-2), 2) := by decide +kernel
theorem md_T_activate_24 : decode mc_T_activate 24 = .ok (.ireturn, 1) := by decide +kernel
theorem md_T_activate_25 : decode mc_T_activate 25 = .ok (.aload_n 0, 1) := by decide +kernel
theorem md_T_activate_26 : decode mc_T_activate 26 = .ok (.getfield 118, 3) := by decide +kernel
theorem md_T_activate_29 : decode mc_T_activate 29 = .ok (.sipush 500, 3) := by decide +kernel
theorem md_T_activate_32 : decode mc_T_activate 32 = .ok (.if_icmp .lt 6, 3) := by decide +kernel
theorem md_T_activate_35 : decode mc_T_activate 35 = .ok (.bipush (-4), 2) := by decide +kernel
theorem md_T_activate_37 : decode mc_T_activate 37 = .ok (.ireturn, 1) := by decide +kernel
theorem md_T_activate_38 : decode mc_T_activate 38 = .ok (.aload_n 0, 1) := by decide +kernel
theorem md_T_activate_39 : decode mc_T_activate 39 = .ok (.dup, 1) := by decide +kernel
theorem md_T_activate_40 : decode mc_T_activate 40 = .ok (.getfield 118, 3) := by decide +kernel
theorem md_T_activate_43 : decode mc_T_activate 43 = .ok (.iconst 1, 1) := by decide +kernel
theorem md_T_activate_44 : decode mc_T_activate 44 = .ok (.iadd, 1) := by decide +kernel
theorem md_T_activate_45 : decode mc_T_activate 45 = .ok (.putfield 118, 3) := by decide +kernel
theorem md_T_activate_48 : decode mc_T_activate 48 = .ok (.aload_n 0, 1) := by decide +kernel
theorem md_T_activate_49 : decode mc_T_activate 49 = .ok (.new 121, 3) := by decide +kernel
theorem md_T_activate_52 : decode mc_T_activate 52 = .ok (.dup, 1) := by decide +kernel
theorem md_T_activate_53 : decode mc_T_activate 53 = .ok (.aload 4, 2) := by decide +kernel
theorem md_T_activate_55 : decode mc_T_activate 55 = .ok (.lload_n 2, 1) := by decide +kernel
theorem md_T_activate_56 : decode mc_T_activate 56 = .ok (.l2i, 1) := by decide +kernel
theorem md_T_activate_57 : decode mc_T_activate 57 = .ok (.invokespecial 123, 3) := by decide +kernel
theorem md_T_activate_60 : decode mc_T_activate 60 = .ok (.invokevirtual 126, 3) := by decide +kernel
theorem md_T_activate_63 : decode mc_T_activate 63 = .ok (.iconst 1, 1) := by decide +kernel
theorem md_T_activate_64 : decode mc_T_activate 64 = .ok (.ireturn, 1) := by decide +kernel
theorem md_T_interrupt_0 : decode mc_T_interrupt 0 = .ok (.iload_n 1, 1) := by decide +kernel
theorem md_T_interrupt_1 : decode mc_T_interrupt 1 = .ok (.iconst 1, 1) := by decide +kernel
theorem md_T_interrupt_2 : decode mc_T_interrupt 2 = .ok (.if_icmp .lt 33, 3) := by decide +kernel
theorem md_T_interrupt_5 : decode mc_T_interrupt 5 = .ok (.iload_n 1, 1) := by decide +kernel
theorem md_T_interrupt_6 : decode mc_T_interrupt 6 = .ok (.bipush 15, 2) := by decide +kernel
theorem md_T_interrupt_8 : decode mc_T_interrupt 8 = .ok (.if_icmp .gt 27, 3) := by decide +kernel
theorem md_T_interrupt_11 : decode mc_T_interrupt 11 = .ok (.aload_n 0, 1) := by decide +kernel
theorem md_T_interrupt_12 : decode mc_T_interrupt 12 = .ok (.lload_n 2, 1) := by decide +kernel
theorem md_T_interrupt_13 : decode mc_T_interrupt 13 = .ok (.invokevirtual 114, 3) := by decide +kernel
theorem md_T_interrupt_16 : decode mc_T_interrupt 16 = .ok (.ifCond .eq 19, 3) := by decide +kernel
theorem md_T_interrupt_19 : decode mc_T_interrupt 19 = .ok (.lload 4, 2) := by decide +kernel
theorem md_T_interrupt_21 : decode mc_T_interrupt 21 = .ok (.lconst 1, 1) := by decide +kernel
theorem md_T_interrupt_22 : decode mc_T_interrupt 22 = .ok (.lcmp, 1) := by decide +kernel
theorem md_T_interrupt_23 : decode mc_T_interrupt 23 = .ok (.ifCond .lt 12, 3) := by decide +kernel
theorem md_T_interrupt_26 : decode mc_T_interrupt 26 = .ok (.lload 4, 2) := by decide +kernel
theorem md_T_interrupt_28 : decode mc_T_interrupt 28 = .ok (.ldc2_w 130, 3) := by decide +kernel
theorem md_T_interrupt_31 : decode mc_T_interrupt 31 = .ok (.lcmp, 1) := by decide +kernel
theorem md_T_interrupt_32 : decode mc_T_interrupt 32 = .ok (.ifCond .le 6, 3) := by decide +kernel
theorem md_T_interrupt_35 : decode mc_T_interrupt 35 = .ok (.bipush (-2), 2) := by decide +kernel
theorem md_T_interrupt_37 : decode mc_T_interrupt 37 = .ok (.ireturn, 1) := by decide +kernel
theorem md_T_interrupt_38 : decode mc_T_interrupt 38 = .ok (.aload_n 0, 1) := by decide +kernel
theorem md_T_interrupt_39 : decode mc_T_interrupt 39 = .ok (.getfield 30, 3) := by decide +kernel
theorem md_T_interrupt_42 : decode mc_T_interrupt 42 = .ok (.getfield 132, 3) := by decide +kernel
theorem md_T_interrupt_45 : decode mc_T_interrupt 45 = .ok (.sipush 500, 3) := by decide +kernel
theorem md_T_interrupt_48 : decode mc_T_interrupt 48 = .ok (.if_icmp .lt 6, 3) := by decide +kernel
theorem md_T_interrupt_51 : decode mc_T_interrupt 51 = .ok (.bipush (-4), 2) := by decide +kernel
theorem md_T_interrupt_53 : decode mc_T_interrupt 53 = .ok (.ireturn, 1) := by decide +kernel
theorem md_T_interrupt_54 : decode mc_T_interrupt 54 = .ok (.aload_n 0, 1) := by decide +kernel
theorem md_T_interrupt_55 : decode mc_T_interrupt 55 = .ok (.getfield 30, 3) := by decide +kernel
theorem md_T_interrupt_58 : decode mc_T_interrupt 58 = .ok (.new 135, 3) := by decide +kernel
theorem md_T_interrupt_61 : decode mc_T_interrupt 61 = .ok (.dup, 1) := by decide +kernel
theorem md_T_interrupt_62 : decode mc_T_interrupt 62 = .ok (.iload_n 1, 1) := by decide +kernel
theorem md_T_interrupt_63 : decode mc_T_interrupt 63 = .ok (.lload_n 2, 1) := by decide +kernel
theorem md_T_interrupt_64 : decode mc_T_interrupt 64 = .ok (.l2i, 1) := by decide +kernel
theorem md_T_interrupt_65 : decode mc_T_interrupt 65 = .ok (.lload 4, 2) := by decide +kernel
theorem md_T_interrupt_67 : decode mc_T_interrupt 67 = .ok (.l2i, 1) := by decide +kernel
theorem md_T_interrupt_68 : decode mc_T_interrupt 68 = .ok (.invokespecial 137, 3) := by decide +kernel
theorem md_T_interrupt_71 : decode mc_T_interrupt 71 = .ok (.invokevirtual 140, 3) := by decide +kernel
theorem md_T_interrupt_74 : decode mc_T_interrupt 74 = .ok (.aload_n 0, 1) := by decide +kernel
theorem md_T_interrupt_75 : decode mc_T_interrupt 75 = .ok (.getfield 30, 3) := by decide +kernel
theorem md_T_interrupt_78 : decode mc_T_interrupt 78 = .ok (.getfield 132, 3) := by decide +kernel
theorem md_T_interrupt_81 : decode mc_T_interrupt 81 = .ok (.ireturn, 1) := by decide +kernel
theorem md_T_run_0 : decode mc_T_run 0 = .ok (.lload_n 1, 1) := by decide +kernel
theorem md_T_run_1 : decode mc_T_run 1 = .ok (.lconst 0, 1) := by decide +kernel
theorem md_T_run_2 : decode mc_T_run 2 = .ok (.lcmp, 1) := by decide +kernel
theorem md_T_run_3 : decode mc_T_run 3 = .ok (.ifCond .lt 16, 3) := by decide +kernel
theorem md_T_run_6 : decode mc_T_run 6 = .ok (.lload_n 1, 1) := by decide +kernel
theorem md_T_run_7 : decode mc_T_run 7 = .ok (.ldc 52, 2) := by decide +kernel
theorem md_T_run_9 : decode mc_T_run 9 = .ok (.aload_n 0, 1) := by decide +kernel
theorem md_T_run_10 : decode mc_T_run 10 = .ok (.getfield 60, 3) := by decide +kernel
theorem md_T_run_13 : decode mc_T_run 13 = .ok (.isub, 1) := by decide +kernel
theorem md_T_run_14 : decode mc_T_run 14 = .ok (.i2l, 1) := by decide +kernel
theorem md_T_run_15 : decode mc_T_run 15 = .ok (.lcmp, 1) := by decide +kernel
theorem md_T_run_16 : decode mc_T_run 16 = .ok (.ifCond .le 6, 3) := by decide +kernel
theorem md_T_run_19 : decode mc_T_run 19 = .ok (.bipush (-2), 2) := by decide +kernel
theorem md_T_run_21 : decode mc_T_run 21 = .ok (.ireturn, 1) := by decide +kernel
theorem md_T_run_22 : decode mc_T_run 22 = .ok (.aload_n 0, 1) := by decide +kernel
theorem md_T_run_23 : decode mc_T_run 23 = .ok (.getfield 60, 3) := by decide +kernel
theorem md_T_run_26 : decode mc_T_run 26 = .ok (.lload_n 1, 1) := by decide +kernel
theorem md_T_run_27 : decode mc_T_run 27 = .ok (.l2i, 1) := by decide +kernel
theorem md_T_run_28 : decode mc_T_run 28 = .ok (.iadd, 1) := by decide +kernel
theorem md_T_run_29 : decode mc_T_run 29 = .ok (.istore_n 3, 1) := by decide +kernel
theorem md_T_run_30 : decode mc_T_run 30 = .ok (.iconst 0, 1) := by decide +kernel
theorem md_T_run_31 : decode mc_T_run 31 = .ok (.istore 4, 2) := by decide +kernel
theorem md_T_run_33 : decode mc_T_run 33 = .ok (.iconst 0, 1) := by decide +kernel
theorem md_T_run_34 : decode mc_T_run 34 = .ok (.istore 5, 2) := by decide +kernel
theorem md_T_run_36 : decode mc_T_run 36 = .ok (.aload_n 0, 1) := by decide +kernel
theorem md_T_run_37 : decode mc_T_run 37 = .ok (.getfield 60, 3) := by decide +kernel
theorem md_T_run_40 : decode mc_T_run 40 = .ok (.iload_n 3, 1) := by decide +kernel
theorem md_T_run_41 : decode mc_T_run 41 = .ok (.if_icmp .ge 82, 3) := by decide +kernel
theorem md_T_run_44 : decode mc_T_run 44 = .ok (.iload 5, 2) := by decide +kernel
theorem md_T_run_46 : decode mc_T_run 46 = .ok (.ldc 52, 2) := by decide +kernel
theorem md_T_run_48 : decode mc_T_run 48 = .ok (.if_icmp .ge 75, 3) := by decide +kernel
theorem md_T_run_51 : decode mc_T_run 51 = .ok (.aload_n 0, 1) := by decide +kernel
theorem md_T_run_52 : decode mc_T_run 52 = .ok (.invokevirtual 144, 3) := by decide +kernel
theorem md_T_run_55 : decode mc_T_run 55 = .ok (.aload_n 0, 1) := by decide +kernel
theorem md_T_run_56 : decode mc_T_run 56 = .ok (.invokevirtual 147, 3) := by decide +kernel
theorem md_T_run_59 : decode mc_T_run 59 = .ok (.aload_n 0, 1) := by decide +kernel
theorem md_T_run_60 : decode mc_T_run 60 = .ok (.invokevirtual 150, 3) := by decide +kernel
theorem md_T_run_63 : decode mc_T_run 63 = .ok (.aload_n 0, 1) := by decide +kernel
theorem md_T_run_64 : decode mc_T_run 64 = .ok (.getfield 45, 3) := by decide +kernel
theorem md_T_run_67 : decode mc_T_run 67 = .ok (.astore 6, 2) := by decide +kernel
theorem md_T_run_69 : decode mc_T_run 69 = .ok (.aload 6, 2) := by decide +kernel
theorem md_T_run_71 : decode mc_T_run 71 = .ok (.arraylength, 1) := by decide +kernel
theorem md_T_run_72 : decode mc_T_run 72 = .ok (.istore 7, 2) := by decide +kernel
theorem md_T_run_74 : decode mc_T_run 74 = .ok (.iconst 0, 1) := by decide +kernel
theorem md_T_run_75 : decode mc_T_run 75 = .ok (.istore 8, 2) := by decide +kernel
theorem md_T_run_77 : decode mc_T_run 77 = .ok (.iload 8, 2) := by decide +kernel
theorem md_T_run_79 : decode mc_T_run 79 = .ok (.iload 7, 2) := by decide +kernel
theorem md_T_run_81 : decode mc_T_run 81 = .ok (.if_icmp .ge 22, 3) := by decide +kernel
theorem md_T_run_84 : decode mc_T_run 84 = .ok (.aload 6, 2) := by decide +kernel
theorem md_T_run_86 : decode mc_T_run 86 = .ok (.iload 8, 2) := by decide +kernel
theorem md_T_run_88 : decode mc_T_run 88 = .ok (.aaload, 1) := by decide +kernel
theorem md_T_run_89 : decode mc_T_run 89 = .ok (.astore 9, 2) := by decide +kernel
theorem md_T_run_91 : decode mc_T_run 91 = .ok (.aload_n 0, 1) := by decide +kernel
theorem md_T_run_92 : decode mc_T_run 92 = .ok (.aload 9, 2) := by decide +kernel
theorem md_T_run_94 : decode mc_T_run 94 = .ok (.invokevirtual 153, 3) := by decide +kernel
theorem md_T_run_97 : decode mc_T_run 97 = .ok (.iinc 8 1, 3) := by decide +kernel
theorem md_T_run_100 : decode mc_T_run 100 = .ok (.goto (-23), 3) := by decide +kernel
theorem md_T_run_103 : decode mc_T_run 103 = .ok (.iload 4, 2) := by decide +kernel
theorem md_T_run_105 : decode mc_T_run 105 = .ok (.aload_n 0, 1) := by decide +kernel
theorem md_T_run_106 : decode mc_T_run 106 = .ok (.aload_n 0, 1) := by decide +kernel
theorem md_T_run_107 : decode mc_T_run 107 = .ok (.iload_n 3, 1) := by decide +kernel
theorem md_T_run_108 : decode mc_T_run 108 = .ok (.invokevirtual 157, 3) := by decide +kernel
theorem md_T_run_111 : decode mc_T_run 111 = .ok (.invokevirtual 161, 3) := by decide +kernel
theorem md_T_run_114 : decode mc_T_run 114 = .ok (.iadd, 1) := by decide +kernel
theorem md_T_run_115 : decode mc_T_run 115 = .ok (.istore 4, 2) := by decide +kernel
theorem md_T_run_117 : decode mc_T_run 117 = .ok (.iinc 5 1, 3) := by decide +kernel
theorem md_T_run_120 : decode mc_T_run 120 = .ok (.goto (-84), 3) := by decide +kernel
theorem md_T_run_123 : decode mc_T_run 123 = .ok (.iload 4, 2) := by decide +kernel
theorem md_T_run_125 : decode mc_T_run 125 = .ok (.ireturn, 1) := by decide +kernel
theorem md_T_now_0 : decode mc_T_now 0 = .ok (.aload_n 0, 1) := by decide +kernel
theorem md_T_now_1 : decode mc_T_now 1 = .ok (.getfield 60, 3) := by decide +kernel
theorem md_T_now_4 : decode mc_T_now 4 = .ok (.i2l, 1) := by decide +kernel
theorem md_T_now_5 : decode mc_T_now 5 = .ok (.lreturn, 1) := by decide +kernel
theorem md_T_running_0 : decode mc_T_running 0 = .ok (.aload_n 0, 1) := by decide +kernel
theorem md_T_running_1 : decode mc_T_running 1 = .ok (.iload_n 1, 1) := by decide +kernel
theorem md_T_running_2 : decode mc_T_running 2 = .ok (.invokevirtual 56, 3) := by decide +kernel
theorem md_T_running_5 : decode mc_T_running 5 = .ok (.astore 4, 2) := by decide +kernel
theorem md_T_running_7 : decode mc_T_running 7 = .ok (.aload 4, 2) := by decide +kernel
theorem md_T_running_9 : decode mc_T_running 9 = .ok (.ifnonnull 5, 3) := by decide +kernel
theorem md_T_running_12 : decode mc_T_running 12 = .ok (.iconst (-1), 1) := by decide +kernel
theorem md_T_running_13 : decode mc_T_running 13 = .ok (.ireturn, 1) := by decide +kernel
theorem md_T_running_14 : decode mc_T_running 14 = .ok (.lload_n 2, 1) := by decide +kernel
theorem md_T_running_15 : decode mc_T_running 15 = .ok (.lconst 0, 1) := by decide +kernel
theorem md_T_running_16 : decode mc_T_running 16 = .ok (.lcmp, 1) := by decide +kernel
theorem md_T_running_17 : decode mc_T_running 17 = .ok (.ifCond .lt 13, 3) := by decide +kernel
theorem md_T_running_20 : decode mc_T_running 20 = .ok (.lload_n 2, 1) := by decide +kernel
theorem md_T_running_21 : decode mc_T_running 21 = .ok (.aload_n 0, 1) := by decide +kernel
theorem md_T_running_22 : decode mc_T_running 22 = .ok (.getfield 60, 3) := by decide +kernel
theorem md_T_running_25 : decode mc_T_running 25 = .ok (.i2l, 1) := by decide +kernel
theorem md_T_running_26 : decode mc_T_running 26 = .ok (.lcmp, 1) := by decide +kernel
theorem md_T_running_27 : decode mc_T_running 27 = .ok (.ifCond .lt 6, 3) := by decide +kernel
theorem md_T_running_30 : decode mc_T_running 30 = .ok (.bipush (-2), 2) := by decide +kernel
theorem md_T_running_32 : decode mc_T_running 32 = .ok (.ireturn, 1) := by decide +kernel
theorem md_T_running_33 : decode mc_T_running 33 = .ok (.aload 4, 2) := by decide +kernel
theorem md_T_running_35 : decode mc_T_running 35 = .ok (.lload_n 2, 1) := by decide +kernel
theorem md_T_running_36 : decode mc_T_running 36 = .ok (.l2i, 1) := by decide +kernel
theorem md_T_running_37 : decode mc_T_running 37 = .ok (.invokevirtual 164, 3) := by decide +kernel
theorem md_T_running_40 : decode mc_T_running 40 = .ok (.ireturn, 1) := by decide +kernel
theorem md_T_used_0 : decode mc_T_used 0 = .ok (.aload_n 0, 1) := by decide +kernel
theorem md_T_used_1 : decode mc_T_used 1 = .ok (.iload_n 1, 1) := by decide +kernel
theorem md_T_used_2 : decode mc_T_used 2 = .ok (.invokevirtual 74, 3) := by decide +kernel
theorem md_T_used_5 : decode mc_T_used 5 = .ok (.astore_n 2, 1) := by decide +kernel
theorem md_T_used_6 : decode mc_T_used 6 = .ok (.aload_n 2, 1) := by decide +kernel
theorem md_T_used_7 : decode mc_T_used 7 = .ok (.ifnonnull 9, 3) := by decide +kernel
theorem md_T_used_10 : decode mc_T_used 10 = .ok (.ldc2_w 167, 3) := by decide +kernel
theorem md_T_used_13 : decode mc_T_used 13 = .ok (.goto 8, 3) := by decide +kernel
theorem md_T_used_16 : decode mc_T_used 16 = .ok (.aload_n 2, 1) := by decide +kernel
theorem md_T_used_17 : decode mc_T_used 17 = .ok (.getfield 169, 3) := by decide +kernel
theorem md_T_used_20 : decode mc_T_used 20 = .ok (.i2l, 1) := by decide +kernel
theorem md_T_used_21 : decode mc_T_used 21 = .ok (.lreturn, 1) := by decide +kernel
theorem md_T_state_0 : decode mc_T_state 0 = .ok (.aload_n 0, 1) := by decide +kernel
theorem md_T_state_1 : decode mc_T_state 1 = .ok (.iload_n 1, 1) := by decide +kernel
theorem md_T_state_2 : decode mc_T_state 2 = .ok (.invokevirtual 74, 3) := by decide +kernel
theorem md_T_state_5 : decode mc_T_state 5 = .ok (.astore_n 2, 1) := by decide +kernel
theorem md_T_state_6 : decode mc_T_state 6 = .ok (.aload_n 2, 1) := by decide +kernel
theorem md_T_state_7 : decode mc_T_state 7 = .ok (.ifnonnull 7, 3) := by decide +kernel
theorem md_T_state_10 : decode mc_T_state 10 = .ok (.iconst (-1), 1) := by decide +kernel
theorem md_T_state_11 : decode mc_T_state 11 = .ok (.goto 7, 3) := by decide +kernel
theorem md_T_state_14 : decode mc_T_state 14 = .ok (.aload_n 2, 1) := by decide +kernel
theorem md_T_state_15 : decode mc_T_state 15 = .ok (.getfield 172, 3) := by decide +kernel
theorem md_T_state_18 : decode mc_T_state 18 = .ok (.ireturn, 1) := by decide +kernel
theorem md_T_event_0 : decode mc_T_event 0 = .ok (.aload_n 0, 1) := by decide +kernel
theorem md_T_event_1 : decode mc_T_event 1 = .ok (.iload_n 1, 1) := by decide +kernel
theorem md_T_event_2 : decode mc_T_event 2 = .ok (.invokevirtual 74, 3) := by decide +kernel
theorem md_T_event_5 : decode mc_T_event 5 = .ok (.astore_n 3, 1) := by decide +kernel
theorem md_T_event_6 : decode mc_T_event 6 = .ok (.aload_n 3, 1) := by decide +kernel
theorem md_T_event_7 : decode mc_T_event 7 = .ok (.ifnonnull 5, 3) := by decide +kernel
theorem md_T_event_10 : decode mc_T_event 10 = .ok (.iconst (-1), 1) := by decide +kernel
theorem md_T_event_11 : decode mc_T_event 11 = .ok (.ireturn, 1) := by decide +kernel
theorem md_T_event_12 : decode mc_T_event 12 = .ok (.iload_n 2, 1) := by decide +kernel
theorem md_T_event_13 : decode mc_T_event 13 = .ok (.iconst 1, 1) := by decide +kernel
theorem md_T_event_14 : decode mc_T_event 14 = .ok (.if_icmp .lt 9, 3) := by decide +kernel
theorem md_T_event_17 : decode mc_T_event 17 = .ok (.iload_n 2, 1) := by decide +kernel
theorem md_T_event_18 : decode mc_T_event 18 = .ok (.ldc 175, 2) := by decide +kernel
theorem md_T_event_20 : decode mc_T_event 20 = .ok (.if_icmp .lt 6, 3) := by decide +kernel
theorem md_T_event_23 : decode mc_T_event 23 = .ok (.bipush (-2), 2) := by decide +kernel
theorem md_T_event_25 : decode mc_T_event 25 = .ok (.ireturn, 1) := by decide +kernel
theorem md_T_event_26 : decode mc_T_event 26 = .ok (.aload_n 3, 1) := by decide +kernel
theorem md_T_event_27 : decode mc_T_event 27 = .ok (.invokevirtual 176, 3) := by decide +kernel
theorem md_T_event_30 : decode mc_T_event 30 = .ok (.ifCond .ne 6, 3) := by decide +kernel
theorem md_T_event_33 : decode mc_T_event 33 = .ok (.bipush (-3), 2) := by decide +kernel
theorem md_T_event_35 : decode mc_T_event 35 = .ok (.ireturn, 1) := by decide +kernel
theorem md_T_event_36 : decode mc_T_event 36 = .ok (.aload_n 0, 1) := by decide +kernel
theorem md_T_event_37 : decode mc_T_event 37 = .ok (.aload_n 3, 1) := by decide +kernel
theorem md_T_event_38 : decode mc_T_event 38 = .ok (.iload_n 2, 1) := by decide +kernel
theorem md_T_event_39 : decode mc_T_event 39 = .ok (.invokevirtual 180, 3) := by decide +kernel
theorem md_T_event_42 : decode mc_T_event 42 = .ok (.iconst 1, 1) := by decide +kernel
theorem md_T_event_43 : decode mc_T_event 43 = .ok (.ireturn, 1) := by decide +kernel
theorem md_T_events_0 : decode mc_T_events 0 = .ok (.aload_n 0, 1) := by decide +kernel
theorem md_T_events_1 : decode mc_T_events 1 = .ok (.iload_n 1, 1) := by decide +kernel
theorem md_T_events_2 : decode mc_T_events 2 = .ok (.invokevirtual 74, 3) := by decide +kernel
theorem md_T_events_5 : decode mc_T_events 5 = .ok (.astore_n 2, 1) := by decide +kernel
theorem md_T_events_6 : decode mc_T_events 6 = .ok (.aload_n 2, 1) := by decide +kernel
theorem md_T_events_7 : decode mc_T_events 7 = .ok (.ifnonnull 7, 3) := by decide +kernel
theorem md_T_events_10 : decode mc_T_events 10 = .ok (.iconst (-1), 1) := by decide +kernel
theorem md_T_events_11 : decode mc_T_events 11 = .ok (.goto 7, 3) := by decide +kernel
theorem md_T_events_14 : decode mc_T_events 14 = .ok (.aload_n 2, 1) := by decide +kernel
theorem md_T_events_15 : decode mc_T_events 15 = .ok (.getfield 183, 3) := by decide +kernel
theorem md_T_events_18 : decode mc_T_events 18 = .ok (.ireturn, 1) := by decide +kernel
theorem md_T_code_0 : decode mc_T_code 0 = .ok (.aload_n 0, 1) := by decide +kernel
theorem md_T_code_1 : decode mc_T_code 1 = .ok (.getfield 39, 3) := by decide +kernel
theorem md_T_code_4 : decode mc_T_code 4 = .ok (.iload_n 1, 1) := by decide +kernel
theorem md_T_code_5 : decode mc_T_code 5 = .ok (.iload_n 2, 1) := by decide +kernel
theorem md_T_code_6 : decode mc_T_code 6 = .ok (.invokevirtual 186, 3) := by decide +kernel
theorem md_T_code_9 : decode mc_T_code 9 = .ok (.ireturn, 1) := by decide +kernel
theorem md_T_order_0 : decode mc_T_order 0 = .ok (.aload_n 0, 1) := by decide +kernel
theorem md_T_order_1 : decode mc_T_order 1 = .ok (.getfield 53, 3) := by decide +kernel
theorem md_T_order_4 : decode mc_T_order 4 = .ok (.iload_n 1, 1) := by decide +kernel
theorem md_T_order_5 : decode mc_T_order 5 = .ok (.iload_n 2, 1) := by decide +kernel
theorem md_T_order_6 : decode mc_T_order 6 = .ok (.invokevirtual 186, 3) := by decide +kernel
theorem md_T_order_9 : decode mc_T_order 9 = .ok (.ireturn, 1) := by decide +kernel
theorem md_T_spin_0 : decode mc_T_spin 0 = .ok (.aload_n 0, 1) := by decide +kernel
theorem md_T_spin_1 : decode mc_T_spin 1 = .ok (.iload_n 1, 1) := by decide +kernel
theorem md_T_spin_2 : decode mc_T_spin 2 = .ok (.invokevirtual 56, 3) := by decide +kernel
theorem md_T_spin_5 : decode mc_T_spin 5 = .ok (.astore_n 3, 1) := by decide +kernel
theorem md_T_spin_6 : decode mc_T_spin 6 = .ok (.aload_n 3, 1) := by decide +kernel
theorem md_T_spin_7 : decode mc_T_spin 7 = .ok (.ifnonnull 7, 3) := by decide +kernel
theorem md_T_spin_10 : decode mc_T_spin 10 = .ok (.sipush (-1000), 3) := by decide +kernel
theorem md_T_spin_13 : decode mc_T_spin 13 = .ok (.ireturn, 1) := by decide +kernel
theorem md_T_spin_14 : decode mc_T_spin 14 = .ok (.aload_n 0, 1) := by decide +kernel
theorem md_T_spin_15 : decode mc_T_spin 15 = .ok (.iload_n 2, 1) := by decide +kernel
theorem md_T_spin_16 : decode mc_T_spin 16 = .ok (.invokevirtual 189, 3) := by decide +kernel
theorem md_T_spin_19 : decode mc_T_spin 19 = .ok (.astore 4, 2) := by decide +kernel
theorem md_T_spin_21 : decode mc_T_spin 21 = .ok (.aload 4, 2) := by decide +kernel
theorem md_T_spin_23 : decode mc_T_spin 23 = .ok (.ifnonnull 7, 3) := by decide +kernel
theorem md_T_spin_26 : decode mc_T_spin 26 = .ok (.sipush (-2000), 3) := by decide +kernel
theorem md_T_spin_29 : decode mc_T_spin 29 = .ok (.ireturn, 1) := by decide +kernel
theorem md_T_spin_30 : decode mc_T_spin 30 = .ok (.aload 4, 2) := by decide +kernel
theorem md_T_spin_32 : decode mc_T_spin 32 = .ok (.getfield 193, 3) := by decide +kernel
theorem md_T_spin_35 : decode mc_T_spin 35 = .ok (.ifnull 24, 3) := by decide +kernel
theorem md_T_spin_38 : decode mc_T_spin 38 = .ok (.aload 4, 2) := by decide +kernel
theorem md_T_spin_40 : decode mc_T_spin 40 = .ok (.getfield 193, 3) := by decide +kernel
theorem md_T_spin_43 : decode mc_T_spin 43 = .ok (.getfield 197, 3) := by decide +kernel
theorem md_T_spin_46 : decode mc_T_spin 46 = .ok (.aload_n 3, 1) := by decide +kernel
theorem md_T_spin_47 : decode mc_T_spin 47 = .ok (.if_acmp .ne 12, 3) := by decide +kernel
theorem md_T_spin_50 : decode mc_T_spin 50 = .ok (.aload 4, 2) := by decide +kernel
theorem md_T_spin_52 : decode mc_T_spin 52 = .ok (.getfield 193, 3) := by decide +kernel
theorem md_T_spin_55 : decode mc_T_spin 55 = .ok (.getfield 201, 3) := by decide +kernel
theorem md_T_spin_58 : decode mc_T_spin 58 = .ok (.ireturn, 1) := by decide +kernel
theorem md_T_spin_59 : decode mc_T_spin 59 = .ok (.aload 4, 2) := by decide +kernel
theorem md_T_spin_61 : decode mc_T_spin 61 = .ok (.aload_n 3, 1) := by decide +kernel
theorem md_T_spin_62 : decode mc_T_spin 62 = .ok (.invokevirtual 204, 3) := by decide +kernel
theorem md_T_spin_65 : decode mc_T_spin 65 = .ok (.astore 5, 2) := by decide +kernel
theorem md_T_spin_67 : decode mc_T_spin 67 = .ok (.aload 5, 2) := by decide +kernel
theorem md_T_spin_69 : decode mc_T_spin 69 = .ok (.ifnonnull 7, 3) := by decide +kernel
theorem md_T_spin_72 : decode mc_T_spin 72 = .ok (.iconst 0, 1) := by decide +kernel
theorem md_T_spin_73 : decode mc_T_spin 73 = .ok (.goto 9, 3) := by decide +kernel
theorem md_T_spin_76 : decode mc_T_spin 76 = .ok (.aload 5, 2) := by decide +kernel
theorem md_T_spin_78 : decode mc_T_spin 78 = .ok (.getfield 201, 3) := by decide +kernel
theorem md_T_spin_81 : decode mc_T_spin 81 = .ok (.ineg, 1) := by decide +kernel
theorem md_T_spin_82 : decode mc_T_spin 82 = .ok (.ireturn, 1) := by decide +kernel
theorem md_T_holder_0 : decode mc_T_holder 0 = .ok (.aload_n 0, 1) := by decide +kernel
theorem md_T_holder_1 : decode mc_T_holder 1 = .ok (.iload_n 1, 1) := by decide +kernel
theorem md_T_holder_2 : decode mc_T_holder 2 = .ok (.invokevirtual 85, 3) := by decide +kernel
theorem md_T_holder_5 : decode mc_T_holder 5 = .ok (.astore_n 2, 1) := by decide +kernel
theorem md_T_holder_6 : decode mc_T_holder 6 = .ok (.aload_n 2, 1) := by decide +kernel
theorem md_T_holder_7 : decode mc_T_holder 7 = .ok (.ifnonnull 6, 3) := by decide +kernel
theorem md_T_holder_10 : decode mc_T_holder 10 = .ok (.bipush (-2), 2) := by decide +kernel
theorem md_T_holder_12 : decode mc_T_holder 12 = .ok (.ireturn, 1) := by decide +kernel
theorem md_T_holder_13 : decode mc_T_holder 13 = .ok (.aload_n 2, 1) := by decide +kernel
theorem md_T_holder_14 : decode mc_T_holder 14 = .ok (.getfield 208, 3) := by decide +kernel
theorem md_T_holder_17 : decode mc_T_holder 17 = .ok (.ifnonnull 7, 3) := by decide +kernel
theorem md_T_holder_20 : decode mc_T_holder 20 = .ok (.iconst 0, 1) := by decide +kernel
theorem md_T_holder_21 : decode mc_T_holder 21 = .ok (.goto 10, 3) := by decide +kernel
theorem md_T_holder_24 : decode mc_T_holder 24 = .ok (.aload_n 2, 1) := by decide +kernel
theorem md_T_holder_25 : decode mc_T_holder 25 = .ok (.getfield 208, 3) := by decide +kernel
theorem md_T_holder_28 : decode mc_T_holder 28 = .ok (.getfield 201, 3) := by decide +kernel
theorem md_T_holder_31 : decode mc_T_holder 31 = .ok (.ireturn, 1) := by decide +kernel
theorem md_T_coreOf_0 : decode mc_T_coreOf 0 = .ok (.iload_n 1, 1) := by decide +kernel
theorem md_T_coreOf_1 : decode mc_T_coreOf 1 = .ok (.ifCond .lt 12, 3) := by decide +kernel
theorem md_T_coreOf_4 : decode mc_T_coreOf 4 = .ok (.iload_n 1, 1) := by decide +kernel
theorem md_T_coreOf_5 : decode mc_T_coreOf 5 = .ok (.aload_n 0, 1) := by decide +kernel
theorem md_T_coreOf_6 : decode mc_T_coreOf 6 = .ok (.getfield 45, 3) := by decide +kernel
theorem md_T_coreOf_9 : decode mc_T_coreOf 9 = .ok (.arraylength, 1) := by decide +kernel
theorem md_T_coreOf_10 : decode mc_T_coreOf 10 = .ok (.if_icmp .lt 7, 3) := by decide +kernel
theorem md_T_coreOf_13 : decode mc_T_coreOf 13 = .ok (.aconst_null, 1) := by decide +kernel
theorem md_T_coreOf_14 : decode mc_T_coreOf 14 = .ok (.goto 9, 3) := by decide +kernel
theorem md_T_coreOf_17 : decode mc_T_coreOf 17 = .ok (.aload_n 0, 1) := by decide +kernel
theorem md_T_coreOf_18 : decode mc_T_coreOf 18 = .ok (.getfield 45, 3) := by decide +kernel
theorem md_T_coreOf_21 : decode mc_T_coreOf 21 = .ok (.iload_n 1, 1) := by decide +kernel
theorem md_T_coreOf_22 : decode mc_T_coreOf 22 = .ok (.aaload, 1) := by decide +kernel
theorem md_T_coreOf_23 : decode mc_T_coreOf 23 = .ok (.areturn, 1) := by decide +kernel
theorem md_T_taskOf_0 : decode mc_T_taskOf 0 = .ok (.iload_n 1, 1) := by decide +kernel
theorem md_T_taskOf_1 : decode mc_T_taskOf 1 = .ok (.iconst 1, 1) := by decide +kernel
theorem md_T_taskOf_2 : decode mc_T_taskOf 2 = .ok (.if_icmp .lt 12, 3) := by decide +kernel
theorem md_T_taskOf_5 : decode mc_T_taskOf 5 = .ok (.iload_n 1, 1) := by decide +kernel
theorem md_T_taskOf_6 : decode mc_T_taskOf 6 = .ok (.aload_n 0, 1) := by decide +kernel
theorem md_T_taskOf_7 : decode mc_T_taskOf 7 = .ok (.getfield 11, 3) := by decide +kernel
theorem md_T_taskOf_10 : decode mc_T_taskOf 10 = .ok (.arraylength, 1) := by decide +kernel
theorem md_T_taskOf_11 : decode mc_T_taskOf 11 = .ok (.if_icmp .lt 7, 3) := by decide +kernel
theorem md_T_taskOf_14 : decode mc_T_taskOf 14 = .ok (.aconst_null, 1) := by decide +kernel
theorem md_T_taskOf_15 : decode mc_T_taskOf 15 = .ok (.goto 9, 3) := by decide +kernel
theorem md_T_taskOf_18 : decode mc_T_taskOf 18 = .ok (.aload_n 0, 1) := by decide +kernel
theorem md_T_taskOf_19 : decode mc_T_taskOf 19 = .ok (.getfield 11, 3) := by decide +kernel
theorem md_T_taskOf_22 : decode mc_T_taskOf 22 = .ok (.iload_n 1, 1) := by decide +kernel
theorem md_T_taskOf_23 : decode mc_T_taskOf 23 = .ok (.aaload, 1) := by decide +kernel
theorem md_T_taskOf_24 : decode mc_T_taskOf 24 = .ok (.areturn, 1) := by decide +kernel
theorem md_T_resourceOf_0 : decode mc_T_resourceOf 0 = .ok (.iload_n 1, 1) := by decide +kernel
theorem md_T_resourceOf_1 : decode mc_T_resourceOf 1 = .ok (.iconst 1, 1) := by decide +kernel
theorem md_T_resourceOf_2 : decode mc_T_resourceOf 2 = .ok (.if_icmp .lt 12, 3) := by decide +kernel
theorem md_T_resourceOf_5 : decode mc_T_resourceOf 5 = .ok (.iload_n 1, 1) := by decide +kernel
theorem md_T_resourceOf_6 : decode mc_T_resourceOf 6 = .ok (.aload_n 0, 1) := by decide +kernel
theorem md_T_resourceOf_7 : decode mc_T_resourceOf 7 = .ok (.getfield 17, 3) := by decide +kernel
theorem md_T_resourceOf_10 : decode mc_T_resourceOf 10 = .ok (.arraylength, 1) := by decide +kernel
theorem md_T_resourceOf_11 : decode mc_T_resourceOf 11 = .ok (.if_icmp .lt 7, 3) := by decide +kernel
theorem md_T_resourceOf_14 : decode mc_T_resourceOf 14 = .ok (.aconst_null, 1) := by decide +kernel
theorem md_T_resourceOf_15 : decode mc_T_resourceOf 15 = .ok (.goto 9, 3) := by decide +kernel
theorem md_T_resourceOf_18 : decode mc_T_resourceOf 18 = .ok (.aload_n 0, 1) := by decide +kernel
theorem md_T_resourceOf_19 : decode mc_T_resourceOf 19 = .ok (.getfield 17, 3) := by decide +kernel
theorem md_T_resourceOf_22 : decode mc_T_resourceOf 22 = .ok (.iload_n 1, 1) := by decide +kernel
theorem md_T_resourceOf_23 : decode mc_T_resourceOf 23 = .ok (.aaload, 1) := by decide +kernel
theorem md_T_resourceOf_24 : decode mc_T_resourceOf 24 = .ok (.areturn, 1) := by decide +kernel
theorem md_T_lockOf_0 : decode mc_T_lockOf 0 = .ok (.iload_n 1, 1) := by decide +kernel
theorem md_T_lockOf_1 : decode mc_T_lockOf 1 = .ok (.iconst 1, 1) := by decide +kernel
theorem md_T_lockOf_2 : decode mc_T_lockOf 2 = .ok (.if_icmp .lt 12, 3) := by decide +kernel
theorem md_T_lockOf_5 : decode mc_T_lockOf 5 = .ok (.iload_n 1, 1) := by decide +kernel
theorem md_T_lockOf_6 : decode mc_T_lockOf 6 = .ok (.aload_n 0, 1) := by decide +kernel
theorem md_T_lockOf_7 : decode mc_T_lockOf 7 = .ok (.getfield 23, 3) := by decide +kernel
theorem md_T_lockOf_10 : decode mc_T_lockOf 10 = .ok (.arraylength, 1) := by decide +kernel
theorem md_T_lockOf_11 : decode mc_T_lockOf 11 = .ok (.if_icmp .lt 7, 3) := by decide +kernel
theorem md_T_lockOf_14 : decode mc_T_lockOf 14 = .ok (.aconst_null, 1) := by decide +kernel
theorem md_T_lockOf_15 : decode mc_T_lockOf 15 = .ok (.goto 9, 3) := by decide +kernel
theorem md_T_lockOf_18 : decode mc_T_lockOf 18 = .ok (.aload_n 0, 1) := by decide +kernel
theorem md_T_lockOf_19 : decode mc_T_lockOf 19 = .ok (.getfield 23, 3) := by decide +kernel
theorem md_T_lockOf_22 : decode mc_T_lockOf 22 = .ok (.iload_n 1, 1) := by decide +kernel
theorem md_T_lockOf_23 : decode mc_T_lockOf 23 = .ok (.aaload, 1) := by decide +kernel
theorem md_T_lockOf_24 : decode mc_T_lockOf 24 = .ok (.areturn, 1) := by decide +kernel
theorem md_T_isToCome_0 : decode mc_T_isToCome 0 = .ok (.lload_n 1, 1) := by decide +kernel
theorem md_T_isToCome_1 : decode mc_T_isToCome 1 = .ok (.aload_n 0, 1) := by decide +kernel
theorem md_T_isToCome_2 : decode mc_T_isToCome 2 = .ok (.getfield 60, 3) := by decide +kernel
theorem md_T_isToCome_5 : decode mc_T_isToCome 5 = .ok (.i2l, 1) := by decide +kernel
theorem md_T_isToCome_6 : decode mc_T_isToCome 6 = .ok (.lcmp, 1) := by decide +kernel
theorem md_T_isToCome_7 : decode mc_T_isToCome 7 = .ok (.ifCond .lt 15, 3) := by decide +kernel
theorem md_T_isToCome_10 : decode mc_T_isToCome 10 = .ok (.lload_n 1, 1) := by decide +kernel
theorem md_T_isToCome_11 : decode mc_T_isToCome 11 = .ok (.ldc2_w 209, 3) := by decide +kernel
theorem md_T_isToCome_14 : decode mc_T_isToCome 14 = .ok (.lcmp, 1) := by decide +kernel
theorem md_T_isToCome_15 : decode mc_T_isToCome 15 = .ok (.ifCond .gt 7, 3) := by decide +kernel
theorem md_T_isToCome_18 : decode mc_T_isToCome 18 = .ok (.iconst 1, 1) := by decide +kernel
theorem md_T_isToCome_19 : decode mc_T_isToCome 19 = .ok (.goto 4, 3) := by decide +kernel
theorem md_T_isToCome_22 : decode mc_T_isToCome 22 = .ok (.iconst 0, 1) := by decide +kernel
theorem md_T_isToCome_23 : decode mc_T_isToCome 23 = .ok (.ireturn, 1) := by decide +kernel
theorem md_T_mayBePart_0 : decode mc_T_mayBePart 0 = .ok (.iload_n 0, 1) := by decide +kernel
theorem md_T_mayBePart_1 : decode mc_T_mayBePart 1 = .ok (.ifCond .lt 19, 3) := by decide +kernel
theorem md_T_mayBePart_4 : decode mc_T_mayBePart 4 = .ok (.iload_n 0, 1) := by decide +kernel
theorem md_T_mayBePart_5 : decode mc_T_mayBePart 5 = .ok (.getstatic 211, 3) := by decide +kernel
theorem md_T_mayBePart_8 : decode mc_T_mayBePart 8 = .ok (.arraylength, 1) := by decide +kernel
theorem md_T_mayBePart_9 : decode mc_T_mayBePart 9 = .ok (.if_icmp .ge 11, 3) := by decide +kernel
theorem md_T_mayBePart_12 : decode mc_T_mayBePart 12 = .ok (.iload_n 0, 1) := by decide +kernel
theorem md_T_mayBePart_13 : decode mc_T_mayBePart 13 = .ok (.getstatic 215, 3) := by decide +kernel
theorem md_T_mayBePart_16 : decode mc_T_mayBePart 16 = .ok (.arraylength, 1) := by decide +kernel
theorem md_T_mayBePart_17 : decode mc_T_mayBePart 17 = .ok (.if_icmp .lt 5, 3) := by decide +kernel
theorem md_T_mayBePart_20 : decode mc_T_mayBePart 20 = .ok (.iconst 0, 1) := by decide +kernel
theorem md_T_mayBePart_21 : decode mc_T_mayBePart 21 = .ok (.ireturn, 1) := by decide +kernel
theorem md_T_mayBePart_22 : decode mc_T_mayBePart 22 = .ok (.lload_n 1, 1) := by decide +kernel
theorem md_T_mayBePart_23 : decode mc_T_mayBePart 23 = .ok (.getstatic 211, 3) := by decide +kernel
theorem md_T_mayBePart_26 : decode mc_T_mayBePart 26 = .ok (.iload_n 0, 1) := by decide +kernel
theorem md_T_mayBePart_27 : decode mc_T_mayBePart 27 = .ok (.iaload, 1) := by decide +kernel
theorem md_T_mayBePart_28 : decode mc_T_mayBePart 28 = .ok (.i2l, 1) := by decide +kernel
theorem md_T_mayBePart_29 : decode mc_T_mayBePart 29 = .ok (.lcmp, 1) := by decide +kernel
theorem md_T_mayBePart_30 : decode mc_T_mayBePart 30 = .ok (.ifCond .lt 14, 3) := by decide +kernel
theorem md_T_mayBePart_33 : decode mc_T_mayBePart 33 = .ok (.lload_n 1, 1) := by decide +kernel
theorem md_T_mayBePart_34 : decode mc_T_mayBePart 34 = .ok (.getstatic 215, 3) := by decide +kernel
theorem md_T_mayBePart_37 : decode mc_T_mayBePart 37 = .ok (.iload_n 0, 1) := by decide +kernel
theorem md_T_mayBePart_38 : decode mc_T_mayBePart 38 = .ok (.iaload, 1) := by decide +kernel
theorem md_T_mayBePart_39 : decode mc_T_mayBePart 39 = .ok (.i2l, 1) := by decide +kernel
theorem md_T_mayBePart_40 : decode mc_T_mayBePart 40 = .ok (.lcmp, 1) := by decide +kernel
theorem md_T_mayBePart_41 : decode mc_T_mayBePart 41 = .ok (.ifCond .le 5, 3) := by decide +kernel
theorem md_T_mayBePart_44 : decode mc_T_mayBePart 44 = .ok (.iconst 0, 1) := by decide +kernel
theorem md_T_mayBePart_45 : decode mc_T_mayBePart 45 = .ok (.ireturn, 1) := by decide +kernel
theorem md_T_mayBePart_46 : decode mc_T_mayBePart 46 = .ok (.iload_n 0, 1) := by decide +kernel
theorem md_T_mayBePart_47 : decode mc_T_mayBePart 47 = .ok (.iconst 4, 1) := by decide +kernel
theorem md_T_mayBePart_48 : decode mc_T_mayBePart 48 = .ok (.if_icmp .ne 13, 3) := by decide +kernel
theorem md_T_mayBePart_51 : decode mc_T_mayBePart 51 = .ok (.lload_n 1, 1) := by decide +kernel
theorem md_T_mayBePart_52 : decode mc_T_mayBePart 52 = .ok (.ldc2_w 218, 3) := by decide +kernel
theorem md_T_mayBePart_55 : decode mc_T_mayBePart 55 = .ok (.lrem, 1) := by decide +kernel
theorem md_T_mayBePart_56 : decode mc_T_mayBePart 56 = .ok (.lconst 0, 1) := by decide +kernel
theorem md_T_mayBePart_57 : decode mc_T_mayBePart 57 = .ok (.lcmp, 1) := by decide +kernel
theorem md_T_mayBePart_58 : decode mc_T_mayBePart 58 = .ok (.ifCond .eq 7, 3) := by decide +kernel
theorem md_T_mayBePart_61 : decode mc_T_mayBePart 61 = .ok (.iconst 1, 1) := by decide +kernel
theorem md_T_mayBePart_62 : decode mc_T_mayBePart 62 = .ok (.goto 4, 3) := by decide +kernel
theorem md_T_mayBePart_65 : decode mc_T_mayBePart 65 = .ok (.iconst 0, 1) := by decide +kernel
theorem md_T_mayBePart_66 : decode mc_T_mayBePart 66 = .ok (.ireturn, 1) := by decide +kernel
theorem md_T_addTelling_0 : decode mc_T_addTelling 0 = .ok (.aconst_null, 1) := by decide +kernel
theorem md_T_addTelling_1 : decode mc_T_addTelling 1 = .ok (.astore_n 2, 1) := by decide +kernel
theorem md_T_addTelling_2 : decode mc_T_addTelling 2 = .ok (.aload_n 0, 1) := by decide +kernel
theorem md_T_addTelling_3 : decode mc_T_addTelling 3 = .ok (.getfield 220, 3) := by decide +kernel
theorem md_T_addTelling_6 : decode mc_T_addTelling 6 = .ok (.astore_n 3, 1) := by decide +kernel
theorem md_T_addTelling_7 : decode mc_T_addTelling 7 = .ok (.aload_n 3, 1) := by decide +kernel
theorem md_T_addTelling_8 : decode mc_T_addTelling 8 = .ok (.ifnull 24, 3) := by decide +kernel
theorem md_T_addTelling_11 : decode mc_T_addTelling 11 = .ok (.aload_n 3, 1) := by decide +kernel
theorem md_T_addTelling_12 : decode mc_T_addTelling 12 = .ok (.getfield 224, 3) := by decide +kernel
theorem md_T_addTelling_15 : decode mc_T_addTelling 15 = .ok (.aload_n 1, 1) := by decide +kernel
theorem md_T_addTelling_16 : decode mc_T_addTelling 16 = .ok (.getfield 224, 3) := by decide +kernel
theorem md_T_addTelling_19 : decode mc_T_addTelling 19 = .ok (.if_icmp .gt 13, 3) := by decide +kernel
theorem md_T_addTelling_22 : decode mc_T_addTelling 22 = .ok (.aload_n 3, 1) := by decide +kernel
theorem md_T_addTelling_23 : decode mc_T_addTelling 23 = .ok (.astore_n 2, 1) := by decide +kernel
theorem md_T_addTelling_24 : decode mc_T_addTelling 24 = .ok (.aload_n 3, 1) := by decide +kernel
theorem md_T_addTelling_25 : decode mc_T_addTelling 25 = .ok (.getfield 225, 3) := by decide +kernel
theorem md_T_addTelling_28 : decode mc_T_addTelling 28 = .ok (.astore_n 3, 1) := by decide +kernel
theorem md_T_addTelling_29 : decode mc_T_addTelling 29 = .ok (.goto (-22), 3) := by decide +kernel
theorem md_T_addTelling_32 : decode mc_T_addTelling 32 = .ok (.aload_n 2, 1) := by decide +kernel
theorem md_T_addTelling_33 : decode mc_T_addTelling 33 = .ok (.ifnonnull 19, 3) := by decide +kernel
theorem md_T_addTelling_36 : decode mc_T_addTelling 36 = .ok (.aload_n 1, 1) := by decide +kernel
theorem md_T_addTelling_37 : decode mc_T_addTelling 37 = .ok (.aload_n 0, 1) := by decide +kernel
theorem md_T_addTelling_38 : decode mc_T_addTelling 38 = .ok (.getfield 220, 3) := by decide +kernel
theorem md_T_addTelling_41 : decode mc_T_addTelling 41 = .ok (.putfield 225, 3) := by decide +kernel
theorem md_T_addTelling_44 : decode mc_T_addTelling 44 = .ok (.aload_n 0, 1) := by decide +kernel
theorem md_T_addTelling_45 : decode mc_T_addTelling 45 = .ok (.aload_n 1, 1) := by decide +kernel
theorem md_T_addTelling_46 : decode mc_T_addTelling 46 = .ok (.putfield 220, 3) := by decide +kernel
theorem md_T_addTelling_49 : decode mc_T_addTelling 49 = .ok (.goto 16, 3) := by decide +kernel
theorem md_T_addTelling_52 : decode mc_T_addTelling 52 = .ok (.aload_n 1, 1) := by decide +kernel
theorem md_T_addTelling_53 : decode mc_T_addTelling 53 = .ok (.aload_n 2, 1) := by decide +kernel
theorem md_T_addTelling_54 : decode mc_T_addTelling 54 = .ok (.getfield 225, 3) := by decide +kernel
theorem md_T_addTelling_57 : decode mc_T_addTelling 57 = .ok (.putfield 225, 3) := by decide +kernel
theorem md_T_addTelling_60 : decode mc_T_addTelling 60 = .ok (.aload_n 2, 1) := by decide +kernel
theorem md_T_addTelling_61 : decode mc_T_addTelling 61 = .ok (.aload_n 1, 1) := by decide +kernel
theorem md_T_addTelling_62 : decode mc_T_addTelling 62 = .ok (.putfield 225, 3) := by decide +kernel
theorem md_T_addTelling_65 : decode mc_T_addTelling 65 = .ok (.return_, 1) := by decide +kernel
theorem md_T_activateThoseTold_0 : decode mc_T_activateThoseTold 0 = .ok (.aload_n 0, 1) := by decide +kernel
theorem md_T_activateThoseTold_1 : decode mc_T_activateThoseTold 1 = .ok (.getfield 220, 3) := by decide +kernel
theorem md_T_activateThoseTold_4 : decode mc_T_activateThoseTold 4 = .ok (.astore_n 1, 1) := by decide +kernel
theorem md_T_activateThoseTold_5 : decode mc_T_activateThoseTold 5 = .ok (.aload_n 1, 1) := by decide +kernel
theorem md_T_activateThoseTold_6 : decode mc_T_activateThoseTold 6 = .ok (.ifnull 38, 3) := by decide +kernel
theorem md_T_activateThoseTold_9 : decode mc_T_activateThoseTold 9 = .ok (.aload_n 1, 1) := by decide +kernel
theorem md_T_activateThoseTold_10 : decode mc_T_activateThoseTold 10 = .ok (.getfield 224, 3) := by decide +kernel
theorem md_T_activateThoseTold_13 : decode mc_T_activateThoseTold 13 = .ok (.aload_n 0, 1) := by decide +kernel
theorem md_T_activateThoseTold_14 : decode mc_T_activateThoseTold 14 = .ok (.getfield 60, 3) := by decide +kernel
theorem md_T_activateThoseTold_17 : decode mc_T_activateThoseTold 17 = .ok (.if_icmp .gt 27, 3) := by decide +kernel
theorem md_T_activateThoseTold_20 : decode mc_T_activateThoseTold 20 = .ok (.aload_n 0, 1) := by decide +kernel
theorem md_T_activateThoseTold_21 : decode mc_T_activateThoseTold 21 = .ok (.aload_n 1, 1) := by decide +kernel
theorem md_T_activateThoseTold_22 : decode mc_T_activateThoseTold 22 = .ok (.getfield 225, 3) := by decide +kernel
theorem md_T_activateThoseTold_25 : decode mc_T_activateThoseTold 25 = .ok (.putfield 220, 3) := by decide +kernel
theorem md_T_activateThoseTold_28 : decode mc_T_activateThoseTold 28 = .ok (.aload_n 0, 1) := by decide +kernel
theorem md_T_activateThoseTold_29 : decode mc_T_activateThoseTold 29 = .ok (.aload_n 1, 1) := by decide +kernel
theorem md_T_activateThoseTold_30 : decode mc_T_activateThoseTold 30 = .ok (.getfield 228, 3) := by decide +kernel
theorem md_T_activateThoseTold_33 : decode mc_T_activateThoseTold 33 = .ok (.invokevirtual 231, 3) := by decide +kernel
theorem md_T_activateThoseTold_36 : decode mc_T_activateThoseTold 36 = .ok (.aload_n 1, 1) := by decide +kernel
theorem md_T_activateThoseTold_37 : decode mc_T_activateThoseTold 37 = .ok (.getfield 225, 3) := by decide +kernel
theorem md_T_activateThoseTold_40 : decode mc_T_activateThoseTold 40 = .ok (.astore_n 1, 1) := by decide +kernel
theorem md_T_activateThoseTold_41 : decode mc_T_activateThoseTold 41 = .ok (.goto (-36), 3) := by decide +kernel
theorem md_T_activateThoseTold_44 : decode mc_T_activateThoseTold 44 = .ok (.return_, 1) := by decide +kernel
theorem md_T_takeSteps_0 : decode mc_T_takeSteps 0 = .ok (.iconst 1, 1) := by decide +kernel
theorem md_T_takeSteps_1 : decode mc_T_takeSteps 1 = .ok (.istore_n 1, 1) := by decide +kernel
theorem md_T_takeSteps_2 : decode mc_T_takeSteps 2 = .ok (.iconst 0, 1) := by decide +kernel
theorem md_T_takeSteps_3 : decode mc_T_takeSteps 3 = .ok (.istore_n 2, 1) := by decide +kernel
theorem md_T_takeSteps_4 : decode mc_T_takeSteps 4 = .ok (.iload_n 1, 1) := by decide +kernel
theorem md_T_takeSteps_5 : decode mc_T_takeSteps 5 = .ok (.ifCond .eq 95, 3) := by decide +kernel
theorem md_T_takeSteps_8 : decode mc_T_takeSteps 8 = .ok (.iload_n 2, 1) := by decide +kernel
theorem md_T_takeSteps_9 : decode mc_T_takeSteps 9 = .ok (.sipush 1000, 3) := by decide +kernel
theorem md_T_takeSteps_12 : decode mc_T_takeSteps 12 = .ok (.if_icmp .ge 88, 3) := by decide +kernel
theorem md_T_takeSteps_15 : decode mc_T_takeSteps 15 = .ok (.iconst 0, 1) := by decide +kernel
theorem md_T_takeSteps_16 : decode mc_T_takeSteps 16 = .ok (.istore_n 1, 1) := by decide +kernel
theorem md_T_takeSteps_17 : decode mc_T_takeSteps 17 = .ok (.aload_n 0, 1) := by decide +kernel
theorem md_T_takeSteps_18 : decode mc_T_takeSteps 18 = .ok (.getfield 45, 3) := by decide +kernel
theorem md_T_takeSteps_21 : decode mc_T_takeSteps 21 = .ok (.astore_n 3, 1) := by decide +kernel
theorem md_T_takeSteps_22 : decode mc_T_takeSteps 22 = .ok (.aload_n 3, 1) := by decide +kernel
theorem md_T_takeSteps_23 : decode mc_T_takeSteps 23 = .ok (.arraylength, 1) := by decide +kernel
theorem md_T_takeSteps_24 : decode mc_T_takeSteps 24 = .ok (.istore 4, 2) := by decide +kernel
theorem md_T_takeSteps_26 : decode mc_T_takeSteps 26 = .ok (.iconst 0, 1) := by decide +kernel
theorem md_T_takeSteps_27 : decode mc_T_takeSteps 27 = .ok (.istore 5, 2) := by decide +kernel
theorem md_T_takeSteps_29 : decode mc_T_takeSteps 29 = .ok (.iload 5, 2) := by decide +kernel
theorem md_T_takeSteps_31 : decode mc_T_takeSteps 31 = .ok (.iload 4, 2) := by decide +kernel
theorem md_T_takeSteps_33 : decode mc_T_takeSteps 33 = .ok (.if_icmp .ge 61, 3) := by decide +kernel
theorem md_T_takeSteps_36 : decode mc_T_takeSteps 36 = .ok (.aload_n 3, 1) := by decide +kernel
theorem md_T_takeSteps_37 : decode mc_T_takeSteps 37 = .ok (.iload 5, 2) := by decide +kernel
theorem md_T_takeSteps_39 : decode mc_T_takeSteps 39 = .ok (.aaload, 1) := by decide +kernel
theorem md_T_takeSteps_40 : decode mc_T_takeSteps 40 = .ok (.astore 6, 2) := by decide +kernel
theorem md_T_takeSteps_42 : decode mc_T_takeSteps 42 = .ok (.aload_n 0, 1) := by decide +kernel
theorem md_T_takeSteps_43 : decode mc_T_takeSteps 43 = .ok (.aload 6, 2) := by decide +kernel
theorem md_T_takeSteps_45 : decode mc_T_takeSteps 45 = .ok (.invokevirtual 234, 3) := by decide +kernel
theorem md_T_takeSteps_48 : decode mc_T_takeSteps 48 = .ok (.astore 7, 2) := by decide +kernel
theorem md_T_takeSteps_50 : decode mc_T_takeSteps 50 = .ok (.iconst 0, 1) := by decide +kernel
theorem md_T_takeSteps_51 : decode mc_T_takeSteps 51 = .ok (.istore 8, 2) := by decide +kernel
theorem md_T_takeSteps_53 : decode mc_T_takeSteps 53 = .ok (.aload 7, 2) := by decide +kernel
theorem md_T_takeSteps_55 : decode mc_T_takeSteps 55 = .ok (.ifnull 33, 3) := by decide +kernel
theorem md_T_takeSteps_58 : decode mc_T_takeSteps 58 = .ok (.iload 8, 2) := by decide +kernel
theorem md_T_takeSteps_60 : decode mc_T_takeSteps 60 = .ok (.sipush 1000, 3) := by decide +kernel
theorem md_T_takeSteps_63 : decode mc_T_takeSteps 63 = .ok (.if_icmp .ge 25, 3) := by decide +kernel
theorem md_T_takeSteps_66 : decode mc_T_takeSteps 66 = .ok (.aload_n 0, 1) := by decide +kernel
theorem md_T_takeSteps_67 : decode mc_T_takeSteps 67 = .ok (.aload 7, 2) := by decide +kernel
theorem md_T_takeSteps_69 : decode mc_T_takeSteps 69 = .ok (.invokevirtual 237, 3) := by decide +kernel
theorem md_T_takeSteps_72 : decode mc_T_takeSteps 72 = .ok (.aload_n 0, 1) := by decide +kernel
theorem md_T_takeSteps_73 : decode mc_T_takeSteps 73 = .ok (.aload 6, 2) := by decide +kernel
theorem md_T_takeSteps_75 : decode mc_T_takeSteps 75 = .ok (.invokevirtual 234, 3) := by decide +kernel
theorem md_T_takeSteps_78 : decode mc_T_takeSteps 78 = .ok (.astore 7, 2) := by decide +kernel
theorem md_T_takeSteps_80 : decode mc_T_takeSteps 80 = .ok (.iconst 1, 1) := by decide +kernel
theorem md_T_takeSteps_81 : decode mc_T_takeSteps 81 = .ok (.istore_n 1, 1) := by decide +kernel
theorem md_T_takeSteps_82 : decode mc_T_takeSteps 82 = .ok (.iinc 8 1, 3) := by decide +kernel
theorem md_T_takeSteps_85 : decode mc_T_takeSteps 85 = .ok (.goto (-32), 3) := by decide +kernel
theorem md_T_takeSteps_88 : decode mc_T_takeSteps 88 = .ok (.iinc 5 1, 3) := by decide +kernel
theorem md_T_takeSteps_91 : decode mc_T_takeSteps 91 = .ok (.goto (-62), 3) := by decide +kernel
theorem md_T_takeSteps_94 : decode mc_T_takeSteps 94 = .ok (.iinc 2 1, 3) := by decide +kernel
theorem md_T_takeSteps_97 : decode mc_T_takeSteps 97 = .ok (.goto (-93), 3) := by decide +kernel
theorem md_T_takeSteps_100 : decode mc_T_takeSteps 100 = .ok (.return_, 1) := by decide +kernel
theorem md_T_taskWithStep_0 : decode mc_T_taskWithStep 0 = .ok (.aload_n 1, 1) := by decide +kernel
theorem md_T_taskWithStep_1 : decode mc_T_taskWithStep 1 = .ok (.getfield 240, 3) := by decide +kernel
theorem md_T_taskWithStep_4 : decode mc_T_taskWithStep 4 = .ok (.ifCond .ne 19, 3) := by decide +kernel
theorem md_T_taskWithStep_7 : decode mc_T_taskWithStep 7 = .ok (.aload_n 0, 1) := by decide +kernel
theorem md_T_taskWithStep_8 : decode mc_T_taskWithStep 8 = .ok (.getfield 30, 3) := by decide +kernel
theorem md_T_taskWithStep_11 : decode mc_T_taskWithStep 11 = .ok (.aload_n 0, 1) := by decide +kernel
theorem md_T_taskWithStep_12 : decode mc_T_taskWithStep 12 = .ok (.getfield 60, 3) := by decide +kernel
theorem md_T_taskWithStep_15 : decode mc_T_taskWithStep 15 = .ok (.invokevirtual 241, 3) := by decide +kernel
theorem md_T_taskWithStep_18 : decode mc_T_taskWithStep 18 = .ok (.ifnull 5, 3) := by decide +kernel
theorem md_T_taskWithStep_21 : decode mc_T_taskWithStep 21 = .ok (.aconst_null, 1) := by decide +kernel
theorem md_T_taskWithStep_22 : decode mc_T_taskWithStep 22 = .ok (.areturn, 1) := by decide +kernel
theorem md_T_taskWithStep_23 : decode mc_T_taskWithStep 23 = .ok (.aload_n 0, 1) := by decide +kernel
theorem md_T_taskWithStep_24 : decode mc_T_taskWithStep 24 = .ok (.aload_n 1, 1) := by decide +kernel
theorem md_T_taskWithStep_25 : decode mc_T_taskWithStep 25 = .ok (.invokevirtual 153, 3) := by decide +kernel
theorem md_T_taskWithStep_28 : decode mc_T_taskWithStep 28 = .ok (.aload_n 1, 1) := by decide +kernel
theorem md_T_taskWithStep_29 : decode mc_T_taskWithStep 29 = .ok (.getfield 245, 3) := by decide +kernel
theorem md_T_taskWithStep_32 : decode mc_T_taskWithStep 32 = .ok (.astore_n 2, 1) := by decide +kernel
theorem md_T_taskWithStep_33 : decode mc_T_taskWithStep 33 = .ok (.aload_n 2, 1) := by decide +kernel
theorem md_T_taskWithStep_34 : decode mc_T_taskWithStep 34 = .ok (.ifnull 10, 3) := by decide +kernel
theorem md_T_taskWithStep_37 : decode mc_T_taskWithStep 37 = .ok (.aload_n 2, 1) := by decide +kernel
theorem md_T_taskWithStep_38 : decode mc_T_taskWithStep 38 = .ok (.getfield 248, 3) := by decide +kernel
theorem md_T_taskWithStep_41 : decode mc_T_taskWithStep 41 = .ok (.ifnonnull 5, 3) := by decide +kernel
theorem md_T_taskWithStep_44 : decode mc_T_taskWithStep 44 = .ok (.aload_n 2, 1) := by decide +kernel
theorem md_T_taskWithStep_45 : decode mc_T_taskWithStep 45 = .ok (.areturn, 1) := by decide +kernel
theorem md_T_taskWithStep_46 : decode mc_T_taskWithStep 46 = .ok (.aload_n 2, 1) := by decide +kernel
theorem md_T_taskWithStep_47 : decode mc_T_taskWithStep 47 = .ok (.getfield 248, 3) := by decide +kernel
theorem md_T_taskWithStep_50 : decode mc_T_taskWithStep 50 = .ok (.astore_n 3, 1) := by decide +kernel
theorem md_T_taskWithStep_51 : decode mc_T_taskWithStep 51 = .ok (.aload_n 3, 1) := by decide +kernel
theorem md_T_taskWithStep_52 : decode mc_T_taskWithStep 52 = .ok (.getfield 252, 3) := by decide +kernel
theorem md_T_taskWithStep_55 : decode mc_T_taskWithStep 55 = .ok (.ifCond .eq 27, 3) := by decide +kernel
theorem md_T_taskWithStep_58 : decode mc_T_taskWithStep 58 = .ok (.aload_n 3, 1) := by decide +kernel
theorem md_T_taskWithStep_59 : decode mc_T_taskWithStep 59 = .ok (.getfield 252, 3) := by decide +kernel
theorem md_T_taskWithStep_62 : decode mc_T_taskWithStep 62 = .ok (.bipush 8, 2) := by decide +kernel
theorem md_T_taskWithStep_64 : decode mc_T_taskWithStep 64 = .ok (.if_icmp .ne 22, 3) := by decide +kernel
theorem md_T_taskWithStep_67 : decode mc_T_taskWithStep 67 = .ok (.aload_n 2, 1) := by decide +kernel
theorem md_T_taskWithStep_68 : decode mc_T_taskWithStep 68 = .ok (.aload_n 0, 1) := by decide +kernel
theorem md_T_taskWithStep_69 : decode mc_T_taskWithStep 69 = .ok (.aload_n 3, 1) := by decide +kernel
theorem md_T_taskWithStep_70 : decode mc_T_taskWithStep 70 = .ok (.getfield 255, 3) := by decide +kernel
theorem md_T_taskWithStep_73 : decode mc_T_taskWithStep 73 = .ok (.invokevirtual 189, 3) := by decide +kernel
theorem md_T_taskWithStep_76 : decode mc_T_taskWithStep 76 = .ok (.invokestatic 258, 3) := by decide +kernel
theorem md_T_taskWithStep_79 : decode mc_T_taskWithStep 79 = .ok (.ifCond .eq 7, 3) := by decide +kernel
theorem md_T_taskWithStep_82 : decode mc_T_taskWithStep 82 = .ok (.iconst 1, 1) := by decide +kernel
theorem md_T_taskWithStep_83 : decode mc_T_taskWithStep 83 = .ok (.goto 4, 3) := by decide +kernel
theorem md_T_taskWithStep_86 : decode mc_T_taskWithStep 86 = .ok (.iconst 0, 1) := by decide +kernel
theorem md_T_taskWithStep_87 : decode mc_T_taskWithStep 87 = .ok (.istore 4, 2) := by decide +kernel
theorem md_T_taskWithStep_89 : decode mc_T_taskWithStep 89 = .ok (.iload 4, 2) := by decide +kernel
theorem md_T_taskWithStep_91 : decode mc_T_taskWithStep 91 = .ok (.ifCond .eq 7, 3) := by decide +kernel
theorem md_T_taskWithStep_94 : decode mc_T_taskWithStep 94 = .ok (.aconst_null, 1) := by decide +kernel
theorem md_T_taskWithStep_95 : decode mc_T_taskWithStep 95 = .ok (.goto 4, 3) := by decide +kernel
theorem md_T_taskWithStep_98 : decode mc_T_taskWithStep 98 = .ok (.aload_n 2, 1) := by decide +kernel
theorem md_T_taskWithStep_99 : decode mc_T_taskWithStep 99 = .ok (.areturn, 1) := by decide +kernel
theorem md_T_choose_0 : decode mc_T_choose 0 = .ok (.aload_n 1, 1) := by decide +kernel
theorem md_T_choose_1 : decode mc_T_choose 1 = .ok (.getfield 245, 3) := by decide +kernel
theorem md_T_choose_4 : decode mc_T_choose 4 = .ok (.astore_n 2, 1) := by decide +kernel
theorem md_T_choose_5 : decode mc_T_choose 5 = .ok (.aload_n 2, 1) := by decide +kernel
theorem md_T_choose_6 : decode mc_T_choose 6 = .ok (.ifnull 18, 3) := by decide +kernel
theorem md_T_choose_9 : decode mc_T_choose 9 = .ok (.aload_n 2, 1) := by decide +kernel
theorem md_T_choose_10 : decode mc_T_choose 10 = .ok (.getfield 110, 3) := by decide +kernel
theorem md_T_choose_13 : decode mc_T_choose 13 = .ok (.ifCond .ne 11, 3) := by decide +kernel
theorem md_T_choose_16 : decode mc_T_choose 16 = .ok (.aload_n 1, 1) := by decide +kernel
theorem md_T_choose_17 : decode mc_T_choose 17 = .ok (.getfield 262, 3) := by decide +kernel
theorem md_T_choose_20 : decode mc_T_choose 20 = .ok (.ifCond .ne 4, 3) := by decide +kernel
theorem md_T_choose_23 : decode mc_T_choose 23 = .ok (.return_, 1) := by decide +kernel
theorem md_T_choose_24 : decode mc_T_choose 24 = .ok (.aload_n 1, 1) := by decide +kernel
theorem md_T_choose_25 : decode mc_T_choose 25 = .ok (.iconst 0, 1) := by decide +kernel
theorem md_T_choose_26 : decode mc_T_choose 26 = .ok (.putfield 262, 3) := by decide +kernel
theorem md_T_choose_29 : decode mc_T_choose 29 = .ok (.aload_n 2, 1) := by decide +kernel
theorem md_T_choose_30 : decode mc_T_choose 30 = .ok (.astore_n 3, 1) := by decide +kernel
theorem md_T_choose_31 : decode mc_T_choose 31 = .ok (.aload_n 1, 1) := by decide +kernel
theorem md_T_choose_32 : decode mc_T_choose 32 = .ok (.getfield 265, 3) := by decide +kernel
theorem md_T_choose_35 : decode mc_T_choose 35 = .ok (.astore 4, 2) := by decide +kernel
theorem md_T_choose_37 : decode mc_T_choose 37 = .ok (.aload 4, 2) := by decide +kernel
theorem md_T_choose_39 : decode mc_T_choose 39 = .ok (.ifnull 38, 3) := by decide +kernel
theorem md_T_choose_42 : decode mc_T_choose 42 = .ok (.aload 4, 2) := by decide +kernel
theorem md_T_choose_44 : decode mc_T_choose 44 = .ok (.getfield 172, 3) := by decide +kernel
theorem md_T_choose_47 : decode mc_T_choose 47 = .ok (.iconst 1, 1) := by decide +kernel
theorem md_T_choose_48 : decode mc_T_choose 48 = .ok (.if_icmp .ne 19, 3) := by decide +kernel
theorem md_T_choose_51 : decode mc_T_choose 51 = .ok (.aload_n 3, 1) := by decide +kernel
theorem md_T_choose_52 : decode mc_T_choose 52 = .ok (.ifnull 12, 3) := by decide +kernel
theorem md_T_choose_55 : decode mc_T_choose 55 = .ok (.aload 4, 2) := by decide +kernel
theorem md_T_choose_57 : decode mc_T_choose 57 = .ok (.aload_n 3, 1) := by decide +kernel
theorem md_T_choose_58 : decode mc_T_choose 58 = .ok (.invokevirtual 268, 3) := by decide +kernel
theorem md_T_choose_61 : decode mc_T_choose 61 = .ok (.ifCond .eq 6, 3) := by decide +kernel
theorem md_T_choose_64 : decode mc_T_choose 64 = .ok (.aload 4, 2) := by decide +kernel
theorem md_T_choose_66 : decode mc_T_choose 66 = .ok (.astore_n 3, 1) := by decide +kernel
theorem md_T_choose_67 : decode mc_T_choose 67 = .ok (.aload 4, 2) := by decide +kernel
theorem md_T_choose_69 : decode mc_T_choose 69 = .ok (.getfield 272, 3) := by decide +kernel
theorem md_T_choose_72 : decode mc_T_choose 72 = .ok (.astore 4, 2) := by decide +kernel
theorem md_T_choose_74 : decode mc_T_choose 74 = .ok (.goto (-37), 3) := by decide +kernel
theorem md_T_choose_77 : decode mc_T_choose 77 = .ok (.aload_n 3, 1) := by decide +kernel
theorem md_T_choose_78 : decode mc_T_choose 78 = .ok (.ifnull 8, 3) := by decide +kernel
theorem md_T_choose_81 : decode mc_T_choose 81 = .ok (.aload_n 3, 1) := by decide +kernel
theorem md_T_choose_82 : decode mc_T_choose 82 = .ok (.aload_n 2, 1) := by decide +kernel
theorem md_T_choose_83 : decode mc_T_choose 83 = .ok (.if_acmp .ne 4, 3) := by decide +kernel
theorem md_T_choose_86 : decode mc_T_choose 86 = .ok (.return_, 1) := by decide +kernel
theorem md_T_choose_87 : decode mc_T_choose 87 = .ok (.aload_n 2, 1) := by decide +kernel
theorem md_T_choose_88 : decode mc_T_choose 88 = .ok (.ifnull 8, 3) := by decide +kernel
theorem md_T_choose_91 : decode mc_T_choose 91 = .ok (.aload_n 2, 1) := by decide +kernel
theorem md_T_choose_92 : decode mc_T_choose 92 = .ok (.iconst 1, 1) := by decide +kernel
theorem md_T_choose_93 : decode mc_T_choose 93 = .ok (.putfield 172, 3) := by decide +kernel
theorem md_T_choose_96 : decode mc_T_choose 96 = .ok (.aload_n 3, 1) := by decide +kernel
theorem md_T_choose_97 : decode mc_T_choose 97 = .ok (.iconst 2, 1) := by decide +kernel
theorem md_T_choose_98 : decode mc_T_choose 98 = .ok (.putfield 172, 3) := by decide +kernel
theorem md_T_choose_101 : decode mc_T_choose 101 = .ok (.aload_n 1, 1) := by decide +kernel
theorem md_T_choose_102 : decode mc_T_choose 102 = .ok (.aload_n 3, 1) := by decide +kernel
theorem md_T_choose_103 : decode mc_T_choose 103 = .ok (.putfield 245, 3) := by decide +kernel
theorem md_T_choose_106 : decode mc_T_choose 106 = .ok (.return_, 1) := by decide +kernel
theorem md_T_startsToSpin_0 : decode mc_T_startsToSpin 0 = .ok (.aload_n 1, 1) := by decide +kernel
theorem md_T_startsToSpin_1 : decode mc_T_startsToSpin 1 = .ok (.ifnull 18, 3) := by decide +kernel
theorem md_T_startsToSpin_4 : decode mc_T_startsToSpin 4 = .ok (.aload_n 1, 1) := by decide +kernel
theorem md_T_startsToSpin_5 : decode mc_T_startsToSpin 5 = .ok (.getfield 193, 3) := by decide +kernel
theorem md_T_startsToSpin_8 : decode mc_T_startsToSpin 8 = .ok (.ifnull 11, 3) := by decide +kernel
theorem md_T_startsToSpin_11 : decode mc_T_startsToSpin 11 = .ok (.aload_n 1, 1) := by decide +kernel
theorem md_T_startsToSpin_12 : decode mc_T_startsToSpin 12 = .ok (.getfield 193, 3) := by decide +kernel
theorem md_T_startsToSpin_15 : decode mc_T_startsToSpin 15 = .ok (.aload_n 0, 1) := by decide +kernel
theorem md_T_startsToSpin_16 : decode mc_T_startsToSpin 16 = .ok (.if_acmp .ne 5, 3) := by decide +kernel
theorem md_T_startsToSpin_19 : decode mc_T_startsToSpin 19 = .ok (.iconst 0, 1) := by decide +kernel
theorem md_T_startsToSpin_20 : decode mc_T_startsToSpin 20 = .ok (.ireturn, 1) := by decide +kernel
theorem md_T_startsToSpin_21 : decode mc_T_startsToSpin 21 = .ok (.aload_n 1, 1) := by decide +kernel
theorem md_T_startsToSpin_22 : decode mc_T_startsToSpin 22 = .ok (.aload_n 0, 1) := by decide +kernel
theorem md_T_startsToSpin_23 : decode mc_T_startsToSpin 23 = .ok (.invokevirtual 275, 3) := by decide +kernel
theorem md_T_startsToSpin_26 : decode mc_T_startsToSpin 26 = .ok (.iconst 1, 1) := by decide +kernel
theorem md_T_startsToSpin_27 : decode mc_T_startsToSpin 27 = .ok (.ireturn, 1) := by decide +kernel
theorem md_T_doNextPart_0 : decode mc_T_doNextPart 0 = .ok (.aload_n 1, 1) := by decide +kernel
theorem md_T_doNextPart_1 : decode mc_T_doNextPart 1 = .ok (.getfield 248, 3) := by decide +kernel
theorem md_T_doNextPart_4 : decode mc_T_doNextPart 4 = .ok (.astore_n 2, 1) := by decide +kernel
theorem md_T_doNextPart_5 : decode mc_T_doNextPart 5 = .ok (.aload_n 2, 1) := by decide +kernel
theorem md_T_doNextPart_6 : decode mc_T_doNextPart 6 = .ok (.ifnonnull 9, 3) := by decide +kernel
theorem md_T_doNextPart_9 : decode mc_T_doNextPart 9 = .ok (.aload_n 0, 1) := by decide +kernel
theorem md_T_doNextPart_10 : decode mc_T_doNextPart 10 = .ok (.aload_n 1, 1) := by decide +kernel
theorem md_T_doNextPart_11 : decode mc_T_doNextPart 11 = .ok (.invokevirtual 278, 3) := by decide +kernel
theorem md_T_doNextPart_14 : decode mc_T_doNextPart 14 = .ok (.return_, 1) := by decide +kernel
theorem md_T_doNextPart_15 : decode mc_T_doNextPart 15 = .ok (.aload_n 1, 1) := by decide +kernel
theorem md_T_doNextPart_16 : decode mc_T_doNextPart 16 = .ok (.aload_n 2, 1) := by decide +kernel
theorem md_T_doNextPart_17 : decode mc_T_doNextPart 17 = .ok (.getfield 281, 3) := by decide +kernel
theorem md_T_doNextPart_20 : decode mc_T_doNextPart 20 = .ok (.putfield 248, 3) := by decide +kernel
theorem md_T_doNextPart_23 : decode mc_T_doNextPart 23 = .ok (.aload_n 2, 1) := by decide +kernel
theorem md_T_doNextPart_24 : decode mc_T_doNextPart 24 = .ok (.getfield 255, 3) := by decide +kernel
theorem md_T_doNextPart_27 : decode mc_T_doNextPart 27 = .ok (.istore_n 3, 1) := by decide +kernel
theorem md_T_doNextPart_28 : decode mc_T_doNextPart 28 = .ok (.aload_n 2, 1) := by decide +kernel
theorem md_T_doNextPart_29 : decode mc_T_doNextPart 29 = .ok (.getfield 252, 3) := by decide +kernel
theorem md_T_doNextPart_32 : decode mc_T_doNextPart 32 = .ok (.tableswitch 208 1 13 #[68, 77, 86, 95, 111, 120, 133, 146, 159, 172, 183, 191, 200], 68) := by decide +kernel
theorem md_T_doNextPart_100 : decode mc_T_doNextPart 100 = .ok (.aload_n 0, 1) := by decide +kernel
theorem md_T_doNextPart_101 : decode mc_T_doNextPart 101 = .ok (.aload_n 1, 1) := by decide +kernel
theorem md_T_doNextPart_102 : decode mc_T_doNextPart 102 = .ok (.iload_n 3, 1) := by decide +kernel
theorem md_T_doNextPart_103 : decode mc_T_doNextPart 103 = .ok (.invokevirtual 283, 3) := by decide +kernel
theorem md_T_doNextPart_106 : decode mc_T_doNextPart 106 = .ok (.goto 134, 3) := by decide +kernel
theorem md_T_doNextPart_109 : decode mc_T_doNextPart 109 = .ok (.aload_n 0, 1) := by decide +kernel
theorem md_T_doNextPart_110 : decode mc_T_doNextPart 110 = .ok (.aload_n 1, 1) := by decide +kernel
theorem md_T_doNextPart_111 : decode mc_T_doNextPart 111 = .ok (.iload_n 3, 1) := by decide +kernel
theorem md_T_doNextPart_112 : decode mc_T_doNextPart 112 = .ok (.invokevirtual 286, 3) := by decide +kernel
theorem md_T_doNextPart_115 : decode mc_T_doNextPart 115 = .ok (.goto 125, 3) := by decide +kernel
theorem md_T_doNextPart_118 : decode mc_T_doNextPart 118 = .ok (.aload_n 0, 1) := by decide +kernel
theorem md_T_doNextPart_119 : decode mc_T_doNextPart 119 = .ok (.aload_n 1, 1) := by decide +kernel
theorem md_T_doNextPart_120 : decode mc_T_doNextPart 120 = .ok (.iload_n 3, 1) := by decide +kernel
theorem md_T_doNextPart_121 : decode mc_T_doNextPart 121 = .ok (.invokevirtual 289, 3) := by decide +kernel
theorem md_T_doNextPart_124 : decode mc_T_doNextPart 124 = .ok (.goto 116, 3) := by decide +kernel
theorem md_T_doNextPart_127 : decode mc_T_doNextPart 127 = .ok (.aload_n 0, 1) := by decide +kernel
theorem md_T_doNextPart_128 : decode mc_T_doNextPart 128 = .ok (.aload_n 1, 1) := by decide +kernel
theorem md_T_doNextPart_129 : decode mc_T_doNextPart 129 = .ok (.iload_n 3, 1) := by decide +kernel
theorem md_T_doNextPart_130 : decode mc_T_doNextPart 130 = .ok (.ldc 175, 2) := by decide +kernel
theorem md_T_doNextPart_132 : decode mc_T_doNextPart 132 = .ok (.idiv, 1) := by decide +kernel
theorem md_T_doNextPart_133 : decode mc_T_doNextPart 133 = .ok (.iload_n 3, 1) := by decide +kernel
theorem md_T_doNextPart_134 : decode mc_T_doNextPart 134 = .ok (.ldc 175, 2) := by decide +kernel
theorem md_T_doNextPart_136 : decode mc_T_doNextPart 136 = .ok (.irem, 1) := by decide +kernel
theorem md_T_doNextPart_137 : decode mc_T_doNextPart 137 = .ok (.invokevirtual 292, 3) := by decide +kernel
theorem md_T_doNextPart_140 : decode mc_T_doNextPart 140 = .ok (.goto 100, 3) := by decide +kernel
theorem md_T_doNextPart_143 : decode mc_T_doNextPart 143 = .ok (.aload_n 0, 1) := by decide +kernel
theorem md_T_doNextPart_144 : decode mc_T_doNextPart 144 = .ok (.aload_n 1, 1) := by decide +kernel
theorem md_T_doNextPart_145 : decode mc_T_doNextPart 145 = .ok (.iload_n 3, 1) := by decide +kernel
theorem md_T_doNextPart_146 : decode mc_T_doNextPart 146 = .ok (.invokevirtual 296, 3) := by decide +kernel
theorem md_T_doNextPart_149 : decode mc_T_doNextPart 149 = .ok (.goto 91, 3) := by decide +kernel
theorem md_T_doNextPart_152 : decode mc_T_doNextPart 152 = .ok (.aload_n 0, 1) := by decide +kernel
theorem md_T_doNextPart_153 : decode mc_T_doNextPart 153 = .ok (.aload_n 1, 1) := by decide +kernel
theorem md_T_doNextPart_154 : decode mc_T_doNextPart 154 = .ok (.aload_n 0, 1) := by decide +kernel
theorem md_T_doNextPart_155 : decode mc_T_doNextPart 155 = .ok (.iload_n 3, 1) := by decide +kernel
theorem md_T_doNextPart_156 : decode mc_T_doNextPart 156 = .ok (.invokevirtual 85, 3) := by decide +kernel
theorem md_T_doNextPart_159 : decode mc_T_doNextPart 159 = .ok (.invokevirtual 299, 3) := by decide +kernel
theorem md_T_doNextPart_162 : decode mc_T_doNextPart 162 = .ok (.goto 78, 3) := by decide +kernel
theorem md_T_doNextPart_165 : decode mc_T_doNextPart 165 = .ok (.aload_n 0, 1) := by decide +kernel
theorem md_T_doNextPart_166 : decode mc_T_doNextPart 166 = .ok (.aload_n 1, 1) := by decide +kernel
theorem md_T_doNextPart_167 : decode mc_T_doNextPart 167 = .ok (.aload_n 0, 1) := by decide +kernel
theorem md_T_doNextPart_168 : decode mc_T_doNextPart 168 = .ok (.iload_n 3, 1) := by decide +kernel
theorem md_T_doNextPart_169 : decode mc_T_doNextPart 169 = .ok (.invokevirtual 85, 3) := by decide +kernel
theorem md_T_doNextPart_172 : decode mc_T_doNextPart 172 = .ok (.invokevirtual 303, 3) := by decide +kernel
theorem md_T_doNextPart_175 : decode mc_T_doNextPart 175 = .ok (.goto 65, 3) := by decide +kernel
theorem md_T_doNextPart_178 : decode mc_T_doNextPart 178 = .ok (.aload_n 0, 1) := by decide +kernel
theorem md_T_doNextPart_179 : decode mc_T_doNextPart 179 = .ok (.aload_n 1, 1) := by decide +kernel
theorem md_T_doNextPart_180 : decode mc_T_doNextPart 180 = .ok (.aload_n 0, 1) := by decide +kernel
theorem md_T_doNextPart_181 : decode mc_T_doNextPart 181 = .ok (.iload_n 3, 1) := by decide +kernel
theorem md_T_doNextPart_182 : decode mc_T_doNextPart 182 = .ok (.invokevirtual 189, 3) := by decide +kernel
theorem md_T_doNextPart_185 : decode mc_T_doNextPart 185 = .ok (.invokevirtual 306, 3) := by decide +kernel
theorem md_T_doNextPart_188 : decode mc_T_doNextPart 188 = .ok (.goto 52, 3) := by decide +kernel
theorem md_T_doNextPart_191 : decode mc_T_doNextPart 191 = .ok (.aload_n 0, 1) := by decide +kernel
theorem md_T_doNextPart_192 : decode mc_T_doNextPart 192 = .ok (.aload_n 1, 1) := by decide +kernel
theorem md_T_doNextPart_193 : decode mc_T_doNextPart 193 = .ok (.aload_n 0, 1) := by decide +kernel
theorem md_T_doNextPart_194 : decode mc_T_doNextPart 194 = .ok (.iload_n 3, 1) := by decide +kernel
theorem md_T_doNextPart_195 : decode mc_T_doNextPart 195 = .ok (.invokevirtual 189, 3) := by decide +kernel
theorem md_T_doNextPart_198 : decode mc_T_doNextPart 198 = .ok (.invokevirtual 310, 3) := by decide +kernel
theorem md_T_doNextPart_201 : decode mc_T_doNextPart 201 = .ok (.goto 39, 3) := by decide +kernel
theorem md_T_doNextPart_204 : decode mc_T_doNextPart 204 = .ok (.aload_n 1, 1) := by decide +kernel
theorem md_T_doNextPart_205 : decode mc_T_doNextPart 205 = .ok (.getfield 197, 3) := by decide +kernel
theorem md_T_doNextPart_208 : decode mc_T_doNextPart 208 = .ok (.iconst 1, 1) := by decide +kernel
theorem md_T_doNextPart_209 : decode mc_T_doNextPart 209 = .ok (.putfield 262, 3) := by decide +kernel
theorem md_T_doNextPart_212 : decode mc_T_doNextPart 212 = .ok (.goto 28, 3) := by decide +kernel
theorem md_T_doNextPart_215 : decode mc_T_doNextPart 215 = .ok (.aload_n 0, 1) := by decide +kernel
theorem md_T_doNextPart_216 : decode mc_T_doNextPart 216 = .ok (.aload_n 1, 1) := by decide +kernel
theorem md_T_doNextPart_217 : decode mc_T_doNextPart 217 = .ok (.invokevirtual 278, 3) := by decide +kernel
theorem md_T_doNextPart_220 : decode mc_T_doNextPart 220 = .ok (.goto 20, 3) := by decide +kernel
theorem md_T_doNextPart_223 : decode mc_T_doNextPart 223 = .ok (.aload_n 0, 1) := by decide +kernel
theorem md_T_doNextPart_224 : decode mc_T_doNextPart 224 = .ok (.aload_n 1, 1) := by decide +kernel
theorem md_T_doNextPart_225 : decode mc_T_doNextPart 225 = .ok (.iload_n 3, 1) := by decide +kernel
theorem md_T_doNextPart_226 : decode mc_T_doNextPart 226 = .ok (.invokevirtual 313, 3) := by decide +kernel
theorem md_T_doNextPart_229 : decode mc_T_doNextPart 229 = .ok (.goto 11, 3) := by decide +kernel
theorem md_T_doNextPart_232 : decode mc_T_doNextPart 232 = .ok (.aload_n 0, 1) := by decide +kernel
theorem md_T_doNextPart_233 : decode mc_T_doNextPart 233 = .ok (.aload_n 1, 1) := by decide +kernel
theorem md_T_doNextPart_234 : decode mc_T_doNextPart 234 = .ok (.invokevirtual 316, 3) := by decide +kernel
theorem md_T_doNextPart_237 : decode mc_T_doNextPart 237 = .ok (.goto 3, 3) := by decide +kernel
theorem md_T_doNextPart_240 : decode mc_T_doNextPart 240 = .ok (.return_, 1) := by decide +kernel
theorem md_T_activateByTask_0 : decode mc_T_activateByTask 0 = .ok (.aload_n 0, 1) := by decide +kernel
theorem md_T_activateByTask_1 : decode mc_T_activateByTask 1 = .ok (.iload_n 2, 1) := by decide +kernel
theorem md_T_activateByTask_2 : decode mc_T_activateByTask 2 = .ok (.invokevirtual 74, 3) := by decide +kernel
theorem md_T_activateByTask_5 : decode mc_T_activateByTask 5 = .ok (.astore_n 3, 1) := by decide +kernel
theorem md_T_activateByTask_6 : decode mc_T_activateByTask 6 = .ok (.aload_n 3, 1) := by decide +kernel
theorem md_T_activateByTask_7 : decode mc_T_activateByTask 7 = .ok (.ifnonnull 13, 3) := by decide +kernel
theorem md_T_activateByTask_10 : decode mc_T_activateByTask 10 = .ok (.aload_n 0, 1) := by decide +kernel
theorem md_T_activateByTask_11 : decode mc_T_activateByTask 11 = .ok (.bipush 8, 2) := by decide +kernel
theorem md_T_activateByTask_13 : decode mc_T_activateByTask 13 = .ok (.aload_n 1, 1) := by decide +kernel
theorem md_T_activateByTask_14 : decode mc_T_activateByTask 14 = .ok (.invokevirtual 319, 3) := by decide +kernel
theorem md_T_activateByTask_17 : decode mc_T_activateByTask 17 = .ok (.goto 8, 3) := by decide +kernel
theorem md_T_activateByTask_20 : decode mc_T_activateByTask 20 = .ok (.aload_n 0, 1) := by decide +kernel
theorem md_T_activateByTask_21 : decode mc_T_activateByTask 21 = .ok (.aload_n 3, 1) := by decide +kernel
theorem md_T_activateByTask_22 : decode mc_T_activateByTask 22 = .ok (.invokevirtual 231, 3) := by decide +kernel
theorem md_T_activateByTask_25 : decode mc_T_activateByTask 25 = .ok (.return_, 1) := by decide +kernel
theorem md_T_chain_0 : decode mc_T_chain 0 = .ok (.aload_n 0, 1) := by decide +kernel
theorem md_T_chain_1 : decode mc_T_chain 1 = .ok (.iload_n 2, 1) := by decide +kernel
theorem md_T_chain_2 : decode mc_T_chain 2 = .ok (.invokevirtual 74, 3) := by decide +kernel
theorem md_T_chain_5 : decode mc_T_chain 5 = .ok (.astore_n 3, 1) := by decide +kernel
theorem md_T_chain_6 : decode mc_T_chain 6 = .ok (.aload_n 3, 1) := by decide +kernel
theorem md_T_chain_7 : decode mc_T_chain 7 = .ok (.ifnonnull 10, 3) := by decide +kernel
theorem md_T_chain_10 : decode mc_T_chain 10 = .ok (.aload_n 0, 1) := by decide +kernel
theorem md_T_chain_11 : decode mc_T_chain 11 = .ok (.bipush 8, 2) := by decide +kernel
theorem md_T_chain_13 : decode mc_T_chain 13 = .ok (.aload_n 1, 1) := by decide +kernel
theorem md_T_chain_14 : decode mc_T_chain 14 = .ok (.invokevirtual 319, 3) := by decide +kernel
theorem md_T_chain_17 : decode mc_T_chain 17 = .ok (.aload_n 0, 1) := by decide +kernel
theorem md_T_chain_18 : decode mc_T_chain 18 = .ok (.aload_n 1, 1) := by decide +kernel
theorem md_T_chain_19 : decode mc_T_chain 19 = .ok (.invokevirtual 278, 3) := by decide +kernel
theorem md_T_chain_22 : decode mc_T_chain 22 = .ok (.aload_n 3, 1) := by decide +kernel
theorem md_T_chain_23 : decode mc_T_chain 23 = .ok (.ifnull 8, 3) := by decide +kernel
theorem md_T_chain_26 : decode mc_T_chain 26 = .ok (.aload_n 0, 1) := by decide +kernel
theorem md_T_chain_27 : decode mc_T_chain 27 = .ok (.aload_n 3, 1) := by decide +kernel
theorem md_T_chain_28 : decode mc_T_chain 28 = .ok (.invokevirtual 231, 3) := by decide +kernel
theorem md_T_chain_31 : decode mc_T_chain 31 = .ok (.return_, 1) := by decide +kernel
theorem md_T_waitFor_0 : decode mc_T_waitFor 0 = .ok (.aload_n 1, 1) := by decide +kernel
theorem md_T_waitFor_1 : decode mc_T_waitFor 1 = .ok (.getfield 323, 3) := by decide +kernel
theorem md_T_waitFor_4 : decode mc_T_waitFor 4 = .ok (.ifCond .ne 12, 3) := by decide +kernel
theorem md_T_waitFor_7 : decode mc_T_waitFor 7 = .ok (.aload_n 0, 1) := by decide +kernel
theorem md_T_waitFor_8 : decode mc_T_waitFor 8 = .ok (.iconst 2, 1) := by decide +kernel
theorem md_T_waitFor_9 : decode mc_T_waitFor 9 = .ok (.aload_n 1, 1) := by decide +kernel
theorem md_T_waitFor_10 : decode mc_T_waitFor 10 = .ok (.invokevirtual 319, 3) := by decide +kernel
theorem md_T_waitFor_13 : decode mc_T_waitFor 13 = .ok (.goto 53, 3) := by decide +kernel
theorem md_T_waitFor_16 : decode mc_T_waitFor 16 = .ok (.aload_n 1, 1) := by decide +kernel
theorem md_T_waitFor_17 : decode mc_T_waitFor 17 = .ok (.getfield 326, 3) := by decide +kernel
theorem md_T_waitFor_20 : decode mc_T_waitFor 20 = .ok (.ifnonnull 10, 3) := by decide +kernel
theorem md_T_waitFor_23 : decode mc_T_waitFor 23 = .ok (.aload_n 1, 1) := by decide +kernel
theorem md_T_waitFor_24 : decode mc_T_waitFor 24 = .ok (.getfield 330, 3) := by decide +kernel
theorem md_T_waitFor_27 : decode mc_T_waitFor 27 = .ok (.ifCond .le 12, 3) := by decide +kernel
theorem md_T_waitFor_30 : decode mc_T_waitFor 30 = .ok (.aload_n 0, 1) := by decide +kernel
theorem md_T_waitFor_31 : decode mc_T_waitFor 31 = .ok (.iconst 4, 1) := by decide +kernel
theorem md_T_waitFor_32 : decode mc_T_waitFor 32 = .ok (.aload_n 1, 1) := by decide +kernel
theorem md_T_waitFor_33 : decode mc_T_waitFor 33 = .ok (.invokevirtual 319, 3) := by decide +kernel
theorem md_T_waitFor_36 : decode mc_T_waitFor 36 = .ok (.goto 30, 3) := by decide +kernel
theorem md_T_waitFor_39 : decode mc_T_waitFor 39 = .ok (.aload_n 1, 1) := by decide +kernel
theorem md_T_waitFor_40 : decode mc_T_waitFor 40 = .ok (.getfield 183, 3) := by decide +kernel
theorem md_T_waitFor_43 : decode mc_T_waitFor 43 = .ok (.iload_n 2, 1) := by decide +kernel
theorem md_T_waitFor_44 : decode mc_T_waitFor 44 = .ok (.iand, 1) := by decide +kernel
theorem md_T_waitFor_45 : decode mc_T_waitFor 45 = .ok (.ifCond .ne 21, 3) := by decide +kernel
theorem md_T_waitFor_48 : decode mc_T_waitFor 48 = .ok (.aload_n 1, 1) := by decide +kernel
theorem md_T_waitFor_49 : decode mc_T_waitFor 49 = .ok (.iload_n 2, 1) := by decide +kernel
theorem md_T_waitFor_50 : decode mc_T_waitFor 50 = .ok (.putfield 333, 3) := by decide +kernel
theorem md_T_waitFor_53 : decode mc_T_waitFor 53 = .ok (.aload_n 1, 1) := by decide +kernel
theorem md_T_waitFor_54 : decode mc_T_waitFor 54 = .ok (.iconst 3, 1) := by decide +kernel
theorem md_T_waitFor_55 : decode mc_T_waitFor 55 = .ok (.putfield 172, 3) := by decide +kernel
theorem md_T_waitFor_58 : decode mc_T_waitFor 58 = .ok (.aload_n 1, 1) := by decide +kernel
theorem md_T_waitFor_59 : decode mc_T_waitFor 59 = .ok (.getfield 197, 3) := by decide +kernel
theorem md_T_waitFor_62 : decode mc_T_waitFor 62 = .ok (.aconst_null, 1) := by decide +kernel
theorem md_T_waitFor_63 : decode mc_T_waitFor 63 = .ok (.putfield 245, 3) := by decide +kernel
theorem md_T_waitFor_66 : decode mc_T_waitFor 66 = .ok (.return_, 1) := by decide +kernel
theorem md_T_setByTask_0 : decode mc_T_setByTask 0 = .ok (.aload_n 0, 1) := by decide +kernel
theorem md_T_setByTask_1 : decode mc_T_setByTask 1 = .ok (.iload_n 2, 1) := by decide +kernel
theorem md_T_setByTask_2 : decode mc_T_setByTask 2 = .ok (.invokevirtual 74, 3) := by decide +kernel
theorem md_T_setByTask_5 : decode mc_T_setByTask 5 = .ok (.astore 4, 2) := by decide +kernel
theorem md_T_setByTask_7 : decode mc_T_setByTask 7 = .ok (.aload 4, 2) := by decide +kernel
theorem md_T_setByTask_9 : decode mc_T_setByTask 9 = .ok (.ifnonnull 13, 3) := by decide +kernel
theorem md_T_setByTask_12 : decode mc_T_setByTask 12 = .ok (.aload_n 0, 1) := by decide +kernel
theorem md_T_setByTask_13 : decode mc_T_setByTask 13 = .ok (.bipush 8, 2) := by decide +kernel
theorem md_T_setByTask_15 : decode mc_T_setByTask 15 = .ok (.aload_n 1, 1) := by decide +kernel
theorem md_T_setByTask_16 : decode mc_T_setByTask 16 = .ok (.invokevirtual 319, 3) := by decide +kernel
theorem md_T_setByTask_19 : decode mc_T_setByTask 19 = .ok (.goto 27, 3) := by decide +kernel
theorem md_T_setByTask_22 : decode mc_T_setByTask 22 = .ok (.aload 4, 2) := by decide +kernel
theorem md_T_setByTask_24 : decode mc_T_setByTask 24 = .ok (.invokevirtual 176, 3) := by decide +kernel
theorem md_T_setByTask_27 : decode mc_T_setByTask 27 = .ok (.ifCond .ne 12, 3) := by decide +kernel
theorem md_T_setByTask_30 : decode mc_T_setByTask 30 = .ok (.aload_n 0, 1) := by decide +kernel
theorem md_T_setByTask_31 : decode mc_T_setByTask 31 = .ok (.iconst 5, 1) := by decide +kernel
theorem md_T_setByTask_32 : decode mc_T_setByTask 32 = .ok (.aload_n 1, 1) := by decide +kernel
theorem md_T_setByTask_33 : decode mc_T_setByTask 33 = .ok (.invokevirtual 319, 3) := by decide +kernel
theorem md_T_setByTask_36 : decode mc_T_setByTask 36 = .ok (.goto 10, 3) := by decide +kernel
theorem md_T_setByTask_39 : decode mc_T_setByTask 39 = .ok (.aload_n 0, 1) := by decide +kernel
theorem md_T_setByTask_40 : decode mc_T_setByTask 40 = .ok (.aload 4, 2) := by decide +kernel
theorem md_T_setByTask_42 : decode mc_T_setByTask 42 = .ok (.iload_n 3, 1) := by decide +kernel
theorem md_T_setByTask_43 : decode mc_T_setByTask 43 = .ok (.invokevirtual 180, 3) := by decide +kernel
theorem md_T_setByTask_46 : decode mc_T_setByTask 46 = .ok (.return_, 1) := by decide +kernel
theorem md_T_clearEvents_0 : decode mc_T_clearEvents 0 = .ok (.aload_n 1, 1) := by decide +kernel
theorem md_T_clearEvents_1 : decode mc_T_clearEvents 1 = .ok (.getfield 323, 3) := by decide +kernel
theorem md_T_clearEvents_4 : decode mc_T_clearEvents 4 = .ok (.ifCond .eq 18, 3) := by decide +kernel
theorem md_T_clearEvents_7 : decode mc_T_clearEvents 7 = .ok (.aload_n 1, 1) := by decide +kernel
theorem md_T_clearEvents_8 : decode mc_T_clearEvents 8 = .ok (.dup, 1) := by decide +kernel
theorem md_T_clearEvents_9 : decode mc_T_clearEvents 9 = .ok (.getfield 183, 3) := by decide +kernel
theorem md_T_clearEvents_12 : decode mc_T_clearEvents 12 = .ok (.iload_n 2, 1) := by decide +kernel
theorem md_T_clearEvents_13 : decode mc_T_clearEvents 13 = .ok (.iconst (-1), 1) := by decide +kernel
theorem md_T_clearEvents_14 : decode mc_T_clearEvents 14 = .ok (.ixor, 1) := by decide +kernel
theorem md_T_clearEvents_15 : decode mc_T_clearEvents 15 = .ok (.iand, 1) := by decide +kernel
theorem md_T_clearEvents_16 : decode mc_T_clearEvents 16 = .ok (.putfield 183, 3) := by decide +kernel
theorem md_T_clearEvents_19 : decode mc_T_clearEvents 19 = .ok (.goto 9, 3) := by decide +kernel
theorem md_T_clearEvents_22 : decode mc_T_clearEvents 22 = .ok (.aload_n 0, 1) := by decide +kernel
theorem md_T_clearEvents_23 : decode mc_T_clearEvents 23 = .ok (.iconst 2, 1) := by decide +kernel
theorem md_T_clearEvents_24 : decode mc_T_clearEvents 24 = .ok (.aload_n 1, 1) := by decide +kernel
theorem md_T_clearEvents_25 : decode mc_T_clearEvents 25 = .ok (.invokevirtual 319, 3) := by decide +kernel
theorem md_T_clearEvents_28 : decode mc_T_clearEvents 28 = .ok (.return_, 1) := by decide +kernel
theorem md_T_getResource_0 : decode mc_T_getResource 0 = .ok (.aload_n 2, 1) := by decide +kernel
theorem md_T_getResource_1 : decode mc_T_getResource 1 = .ok (.ifnull 10, 3) := by decide +kernel
theorem md_T_getResource_4 : decode mc_T_getResource 4 = .ok (.aload_n 2, 1) := by decide +kernel
theorem md_T_getResource_5 : decode mc_T_getResource 5 = .ok (.getfield 208, 3) := by decide +kernel
theorem md_T_getResource_8 : decode mc_T_getResource 8 = .ok (.ifnull 10, 3) := by decide +kernel
theorem md_T_getResource_11 : decode mc_T_getResource 11 = .ok (.aload_n 0, 1) := by decide +kernel
theorem md_T_getResource_12 : decode mc_T_getResource 12 = .ok (.iconst 4, 1) := by decide +kernel
theorem md_T_getResource_13 : decode mc_T_getResource 13 = .ok (.aload_n 1, 1) := by decide +kernel
theorem md_T_getResource_14 : decode mc_T_getResource 14 = .ok (.invokevirtual 319, 3) := by decide +kernel
theorem md_T_getResource_17 : decode mc_T_getResource 17 = .ok (.return_, 1) := by decide +kernel
theorem md_T_getResource_18 : decode mc_T_getResource 18 = .ok (.aload_n 2, 1) := by decide +kernel
theorem md_T_getResource_19 : decode mc_T_getResource 19 = .ok (.aload_n 1, 1) := by decide +kernel
theorem md_T_getResource_20 : decode mc_T_getResource 20 = .ok (.putfield 208, 3) := by decide +kernel
theorem md_T_getResource_23 : decode mc_T_getResource 23 = .ok (.aload_n 2, 1) := by decide +kernel
theorem md_T_getResource_24 : decode mc_T_getResource 24 = .ok (.aload_n 1, 1) := by decide +kernel
theorem md_T_getResource_25 : decode mc_T_getResource 25 = .ok (.getfield 326, 3) := by decide +kernel
theorem md_T_getResource_28 : decode mc_T_getResource 28 = .ok (.putfield 336, 3) := by decide +kernel
theorem md_T_getResource_31 : decode mc_T_getResource 31 = .ok (.aload_n 1, 1) := by decide +kernel
theorem md_T_getResource_32 : decode mc_T_getResource 32 = .ok (.aload_n 2, 1) := by decide +kernel
theorem md_T_getResource_33 : decode mc_T_getResource 33 = .ok (.putfield 326, 3) := by decide +kernel
theorem md_T_getResource_36 : decode mc_T_getResource 36 = .ok (.return_, 1) := by decide +kernel
theorem md_T_freeResource_0 : decode mc_T_freeResource 0 = .ok (.aload_n 2, 1) := by decide +kernel
theorem md_T_freeResource_1 : decode mc_T_freeResource 1 = .ok (.ifnull 11, 3) := by decide +kernel
theorem md_T_freeResource_4 : decode mc_T_freeResource 4 = .ok (.aload_n 2, 1) := by decide +kernel
theorem md_T_freeResource_5 : decode mc_T_freeResource 5 = .ok (.aload_n 1, 1) := by decide +kernel
theorem md_T_freeResource_6 : decode mc_T_freeResource 6 = .ok (.getfield 326, 3) := by decide +kernel
theorem md_T_freeResource_9 : decode mc_T_freeResource 9 = .ok (.if_acmp .eq 10, 3) := by decide +kernel
theorem md_T_freeResource_12 : decode mc_T_freeResource 12 = .ok (.aload_n 0, 1) := by decide +kernel
theorem md_T_freeResource_13 : decode mc_T_freeResource 13 = .ok (.iconst 4, 1) := by decide +kernel
theorem md_T_freeResource_14 : decode mc_T_freeResource 14 = .ok (.aload_n 1, 1) := by decide +kernel
theorem md_T_freeResource_15 : decode mc_T_freeResource 15 = .ok (.invokevirtual 319, 3) := by decide +kernel
theorem md_T_freeResource_18 : decode mc_T_freeResource 18 = .ok (.return_, 1) := by decide +kernel
theorem md_T_freeResource_19 : decode mc_T_freeResource 19 = .ok (.aload_n 2, 1) := by decide +kernel
theorem md_T_freeResource_20 : decode mc_T_freeResource 20 = .ok (.aconst_null, 1) := by decide +kernel
theorem md_T_freeResource_21 : decode mc_T_freeResource 21 = .ok (.putfield 208, 3) := by decide +kernel
theorem md_T_freeResource_24 : decode mc_T_freeResource 24 = .ok (.aload_n 1, 1) := by decide +kernel
theorem md_T_freeResource_25 : decode mc_T_freeResource 25 = .ok (.aload_n 2, 1) := by decide +kernel
theorem md_T_freeResource_26 : decode mc_T_freeResource 26 = .ok (.getfield 336, 3) := by decide +kernel
theorem md_T_freeResource_29 : decode mc_T_freeResource 29 = .ok (.putfield 326, 3) := by decide +kernel
theorem md_T_freeResource_32 : decode mc_T_freeResource 32 = .ok (.return_, 1) := by decide +kernel
theorem md_T_takeLock_0 : decode mc_T_takeLock 0 = .ok (.aload_n 2, 1) := by decide +kernel
theorem md_T_takeLock_1 : decode mc_T_takeLock 1 = .ok (.ifnull 10, 3) := by decide +kernel
theorem md_T_takeLock_4 : decode mc_T_takeLock 4 = .ok (.aload_n 2, 1) := by decide +kernel
theorem md_T_takeLock_5 : decode mc_T_takeLock 5 = .ok (.getfield 193, 3) := by decide +kernel
theorem md_T_takeLock_8 : decode mc_T_takeLock 8 = .ok (.ifnull 11, 3) := by decide +kernel
theorem md_T_takeLock_11 : decode mc_T_takeLock 11 = .ok (.aload_n 0, 1) := by decide +kernel
theorem md_T_takeLock_12 : decode mc_T_takeLock 12 = .ok (.bipush 6, 2) := by decide +kernel
theorem md_T_takeLock_14 : decode mc_T_takeLock 14 = .ok (.aload_n 1, 1) := by decide +kernel
theorem md_T_takeLock_15 : decode mc_T_takeLock 15 = .ok (.invokevirtual 319, 3) := by decide +kernel
theorem md_T_takeLock_18 : decode mc_T_takeLock 18 = .ok (.return_, 1) := by decide +kernel
theorem md_T_takeLock_19 : decode mc_T_takeLock 19 = .ok (.aload_n 2, 1) := by decide +kernel
theorem md_T_takeLock_20 : decode mc_T_takeLock 20 = .ok (.aload_n 1, 1) := by decide +kernel
theorem md_T_takeLock_21 : decode mc_T_takeLock 21 = .ok (.putfield 193, 3) := by decide +kernel
theorem md_T_takeLock_24 : decode mc_T_takeLock 24 = .ok (.aload_n 1, 1) := by decide +kernel
theorem md_T_takeLock_25 : decode mc_T_takeLock 25 = .ok (.dup, 1) := by decide +kernel
theorem md_T_takeLock_26 : decode mc_T_takeLock 26 = .ok (.getfield 330, 3) := by decide +kernel
theorem md_T_takeLock_29 : decode mc_T_takeLock 29 = .ok (.iconst 1, 1) := by decide +kernel
theorem md_T_takeLock_30 : decode mc_T_takeLock 30 = .ok (.iadd, 1) := by decide +kernel
theorem md_T_takeLock_31 : decode mc_T_takeLock 31 = .ok (.putfield 330, 3) := by decide +kernel
theorem md_T_takeLock_34 : decode mc_T_takeLock 34 = .ok (.return_, 1) := by decide +kernel
theorem md_T_unlock_0 : decode mc_T_unlock 0 = .ok (.aload_n 2, 1) := by decide +kernel
theorem md_T_unlock_1 : decode mc_T_unlock 1 = .ok (.ifnull 11, 3) := by decide +kernel
theorem md_T_unlock_4 : decode mc_T_unlock 4 = .ok (.aload_n 2, 1) := by decide +kernel
theorem md_T_unlock_5 : decode mc_T_unlock 5 = .ok (.getfield 193, 3) := by decide +kernel
theorem md_T_unlock_8 : decode mc_T_unlock 8 = .ok (.aload_n 1, 1) := by decide +kernel
theorem md_T_unlock_9 : decode mc_T_unlock 9 = .ok (.if_acmp .eq 11, 3) := by decide +kernel
theorem md_T_unlock_12 : decode mc_T_unlock 12 = .ok (.aload_n 0, 1) := by decide +kernel
theorem md_T_unlock_13 : decode mc_T_unlock 13 = .ok (.bipush 6, 2) := by decide +kernel
theorem md_T_unlock_15 : decode mc_T_unlock 15 = .ok (.aload_n 1, 1) := by decide +kernel
theorem md_T_unlock_16 : decode mc_T_unlock 16 = .ok (.invokevirtual 319, 3) := by decide +kernel
theorem md_T_unlock_19 : decode mc_T_unlock 19 = .ok (.return_, 1) := by decide +kernel
theorem md_T_unlock_20 : decode mc_T_unlock 20 = .ok (.aload_n 1, 1) := by decide +kernel
theorem md_T_unlock_21 : decode mc_T_unlock 21 = .ok (.dup, 1) := by decide +kernel
theorem md_T_unlock_22 : decode mc_T_unlock 22 = .ok (.getfield 330, 3) := by decide +kernel
theorem md_T_unlock_25 : decode mc_T_unlock 25 = .ok (.iconst 1, 1) := by decide +kernel
theorem md_T_unlock_26 : decode mc_T_unlock 26 = .ok (.isub, 1) := by decide +kernel
theorem md_T_unlock_27 : decode mc_T_unlock 27 = .ok (.putfield 330, 3) := by decide +kernel
theorem md_T_unlock_30 : decode mc_T_unlock 30 = .ok (.aload_n 2, 1) := by decide +kernel
theorem md_T_unlock_31 : decode mc_T_unlock 31 = .ok (.invokevirtual 339, 3) := by decide +kernel
theorem md_T_unlock_34 : decode mc_T_unlock 34 = .ok (.return_, 1) := by decide +kernel
theorem md_T_putOff_0 : decode mc_T_putOff 0 = .ok (.aload_n 1, 1) := by decide +kernel
theorem md_T_putOff_1 : decode mc_T_putOff 1 = .ok (.getfield 197, 3) := by decide +kernel
theorem md_T_putOff_4 : decode mc_T_putOff 4 = .ok (.getfield 240, 3) := by decide +kernel
theorem md_T_putOff_7 : decode mc_T_putOff 7 = .ok (.ifCond .ne 13, 3) := by decide +kernel
theorem md_T_putOff_10 : decode mc_T_putOff 10 = .ok (.aload_n 0, 1) := by decide +kernel
theorem md_T_putOff_11 : decode mc_T_putOff 11 = .ok (.getfield 30, 3) := by decide +kernel
theorem md_T_putOff_14 : decode mc_T_putOff 14 = .ok (.getfield 342, 3) := by decide +kernel
theorem md_T_putOff_17 : decode mc_T_putOff 17 = .ok (.ifnull 11, 3) := by decide +kernel
theorem md_T_putOff_20 : decode mc_T_putOff 20 = .ok (.aload_n 0, 1) := by decide +kernel
theorem md_T_putOff_21 : decode mc_T_putOff 21 = .ok (.bipush 7, 2) := by decide +kernel
theorem md_T_putOff_23 : decode mc_T_putOff 23 = .ok (.aload_n 1, 1) := by decide +kernel
theorem md_T_putOff_24 : decode mc_T_putOff 24 = .ok (.invokevirtual 319, 3) := by decide +kernel
theorem md_T_putOff_27 : decode mc_T_putOff 27 = .ok (.return_, 1) := by decide +kernel
theorem md_T_putOff_28 : decode mc_T_putOff 28 = .ok (.aload_n 0, 1) := by decide +kernel
theorem md_T_putOff_29 : decode mc_T_putOff 29 = .ok (.getfield 30, 3) := by decide +kernel
theorem md_T_putOff_32 : decode mc_T_putOff 32 = .ok (.aload_n 1, 1) := by decide +kernel
theorem md_T_putOff_33 : decode mc_T_putOff 33 = .ok (.putfield 342, 3) := by decide +kernel
theorem md_T_putOff_36 : decode mc_T_putOff 36 = .ok (.aload_n 0, 1) := by decide +kernel
theorem md_T_putOff_37 : decode mc_T_putOff 37 = .ok (.getfield 30, 3) := by decide +kernel
theorem md_T_putOff_40 : decode mc_T_putOff 40 = .ok (.aload_n 0, 1) := by decide +kernel
theorem md_T_putOff_41 : decode mc_T_putOff 41 = .ok (.getfield 60, 3) := by decide +kernel
theorem md_T_putOff_44 : decode mc_T_putOff 44 = .ok (.iload_n 2, 1) := by decide +kernel
theorem md_T_putOff_45 : decode mc_T_putOff 45 = .ok (.iadd, 1) := by decide +kernel
theorem md_T_putOff_46 : decode mc_T_putOff 46 = .ok (.putfield 345, 3) := by decide +kernel
theorem md_T_putOff_49 : decode mc_T_putOff 49 = .ok (.return_, 1) := by decide +kernel
theorem md_T_putOn_0 : decode mc_T_putOn 0 = .ok (.aload_n 1, 1) := by decide +kernel
theorem md_T_putOn_1 : decode mc_T_putOn 1 = .ok (.getfield 197, 3) := by decide +kernel
theorem md_T_putOn_4 : decode mc_T_putOn 4 = .ok (.getfield 240, 3) := by decide +kernel
theorem md_T_putOn_7 : decode mc_T_putOn 7 = .ok (.ifCond .ne 13, 3) := by decide +kernel
theorem md_T_putOn_10 : decode mc_T_putOn 10 = .ok (.aload_n 0, 1) := by decide +kernel
theorem md_T_putOn_11 : decode mc_T_putOn 11 = .ok (.getfield 30, 3) := by decide +kernel
theorem md_T_putOn_14 : decode mc_T_putOn 14 = .ok (.getfield 342, 3) := by decide +kernel
theorem md_T_putOn_17 : decode mc_T_putOn 17 = .ok (.ifnonnull 11, 3) := by decide +kernel
theorem md_T_putOn_20 : decode mc_T_putOn 20 = .ok (.aload_n 0, 1) := by decide +kernel
theorem md_T_putOn_21 : decode mc_T_putOn 21 = .ok (.bipush 7, 2) := by decide +kernel
theorem md_T_putOn_23 : decode mc_T_putOn 23 = .ok (.aload_n 1, 1) := by decide +kernel
theorem md_T_putOn_24 : decode mc_T_putOn 24 = .ok (.invokevirtual 319, 3) := by decide +kernel
theorem md_T_putOn_27 : decode mc_T_putOn 27 = .ok (.return_, 1) := by decide +kernel
theorem md_T_putOn_28 : decode mc_T_putOn 28 = .ok (.aload_n 0, 1) := by decide +kernel
theorem md_T_putOn_29 : decode mc_T_putOn 29 = .ok (.getfield 30, 3) := by decide +kernel
theorem md_T_putOn_32 : decode mc_T_putOn 32 = .ok (.aconst_null, 1) := by decide +kernel
theorem md_T_putOn_33 : decode mc_T_putOn 33 = .ok (.putfield 342, 3) := by decide +kernel
theorem md_T_putOn_36 : decode mc_T_putOn 36 = .ok (.return_, 1) := by decide +kernel
theorem md_T_setEvents_0 : decode mc_T_setEvents 0 = .ok (.aload_n 1, 1) := by decide +kernel
theorem md_T_setEvents_1 : decode mc_T_setEvents 1 = .ok (.dup, 1) := by decide +kernel
theorem md_T_setEvents_2 : decode mc_T_setEvents 2 = .ok (.getfield 183, 3) := by decide +kernel
theorem md_T_setEvents_5 : decode mc_T_setEvents 5 = .ok (.iload_n 2, 1) := by decide +kernel
theorem md_T_setEvents_6 : decode mc_T_setEvents 6 = .ok (.ior, 1) := by decide +kernel
theorem md_T_setEvents_7 : decode mc_T_setEvents 7 = .ok (.putfield 183, 3) := by decide +kernel
theorem md_T_setEvents_10 : decode mc_T_setEvents 10 = .ok (.aload_n 1, 1) := by decide +kernel
theorem md_T_setEvents_11 : decode mc_T_setEvents 11 = .ok (.getfield 172, 3) := by decide +kernel
theorem md_T_setEvents_14 : decode mc_T_setEvents 14 = .ok (.iconst 3, 1) := by decide +kernel
theorem md_T_setEvents_15 : decode mc_T_setEvents 15 = .ok (.if_icmp .ne 20, 3) := by decide +kernel
theorem md_T_setEvents_18 : decode mc_T_setEvents 18 = .ok (.aload_n 1, 1) := by decide +kernel
theorem md_T_setEvents_19 : decode mc_T_setEvents 19 = .ok (.getfield 183, 3) := by decide +kernel
theorem md_T_setEvents_22 : decode mc_T_setEvents 22 = .ok (.aload_n 1, 1) := by decide +kernel
theorem md_T_setEvents_23 : decode mc_T_setEvents 23 = .ok (.getfield 333, 3) := by decide +kernel
theorem md_T_setEvents_26 : decode mc_T_setEvents 26 = .ok (.iand, 1) := by decide +kernel
theorem md_T_setEvents_27 : decode mc_T_setEvents 27 = .ok (.ifCond .eq 8, 3) := by decide +kernel
theorem md_T_setEvents_30 : decode mc_T_setEvents 30 = .ok (.aload_n 0, 1) := by decide +kernel
theorem md_T_setEvents_31 : decode mc_T_setEvents 31 = .ok (.aload_n 1, 1) := by decide +kernel
theorem md_T_setEvents_32 : decode mc_T_setEvents 32 = .ok (.invokevirtual 348, 3) := by decide +kernel
theorem md_T_setEvents_35 : decode mc_T_setEvents 35 = .ok (.return_, 1) := by decide +kernel
theorem md_T_activateTask_0 : decode mc_T_activateTask 0 = .ok (.aload_n 1, 1) := by decide +kernel
theorem md_T_activateTask_1 : decode mc_T_activateTask 1 = .ok (.getfield 172, 3) := by decide +kernel
theorem md_T_activateTask_4 : decode mc_T_activateTask 4 = .ok (.ifCond .ne 11, 3) := by decide +kernel
theorem md_T_activateTask_7 : decode mc_T_activateTask 7 = .ok (.aload_n 0, 1) := by decide +kernel
theorem md_T_activateTask_8 : decode mc_T_activateTask 8 = .ok (.aload_n 1, 1) := by decide +kernel
theorem md_T_activateTask_9 : decode mc_T_activateTask 9 = .ok (.invokevirtual 351, 3) := by decide +kernel
theorem md_T_activateTask_12 : decode mc_T_activateTask 12 = .ok (.goto 35, 3) := by decide +kernel
theorem md_T_activateTask_15 : decode mc_T_activateTask 15 = .ok (.iconst 1, 1) := by decide +kernel
theorem md_T_activateTask_16 : decode mc_T_activateTask 16 = .ok (.aload_n 1, 1) := by decide +kernel
theorem md_T_activateTask_17 : decode mc_T_activateTask 17 = .ok (.getfield 354, 3) := by decide +kernel
theorem md_T_activateTask_20 : decode mc_T_activateTask 20 = .ok (.iadd, 1) := by decide +kernel
theorem md_T_activateTask_21 : decode mc_T_activateTask 21 = .ok (.aload_n 1, 1) := by decide +kernel
theorem md_T_activateTask_22 : decode mc_T_activateTask 22 = .ok (.getfield 357, 3) := by decide +kernel
theorem md_T_activateTask_25 : decode mc_T_activateTask 25 = .ok (.if_icmp .ge 16, 3) := by decide +kernel
theorem md_T_activateTask_28 : decode mc_T_activateTask 28 = .ok (.aload_n 1, 1) := by decide +kernel
theorem md_T_activateTask_29 : decode mc_T_activateTask 29 = .ok (.dup, 1) := by decide +kernel
theorem md_T_activateTask_30 : decode mc_T_activateTask 30 = .ok (.getfield 354, 3) := by decide +kernel
theorem md_T_activateTask_33 : decode mc_T_activateTask 33 = .ok (.iconst 1, 1) := by decide +kernel
theorem md_T_activateTask_34 : decode mc_T_activateTask 34 = .ok (.iadd, 1) := by decide +kernel
theorem md_T_activateTask_35 : decode mc_T_activateTask 35 = .ok (.putfield 354, 3) := by decide +kernel
theorem md_T_activateTask_38 : decode mc_T_activateTask 38 = .ok (.goto 9, 3) := by decide +kernel
theorem md_T_activateTask_41 : decode mc_T_activateTask 41 = .ok (.aload_n 0, 1) := by decide +kernel
theorem md_T_activateTask_42 : decode mc_T_activateTask 42 = .ok (.iconst 1, 1) := by decide +kernel
theorem md_T_activateTask_43 : decode mc_T_activateTask 43 = .ok (.aload_n 1, 1) := by decide +kernel
theorem md_T_activateTask_44 : decode mc_T_activateTask 44 = .ok (.invokevirtual 319, 3) := by decide +kernel
theorem md_T_activateTask_47 : decode mc_T_activateTask 47 = .ok (.return_, 1) := by decide +kernel
theorem md_T_endTask_0 : decode mc_T_endTask 0 = .ok (.aload_n 0, 1) := by decide +kernel
theorem md_T_endTask_1 : decode mc_T_endTask 1 = .ok (.aload_n 1, 1) := by decide +kernel
theorem md_T_endTask_2 : decode mc_T_endTask 2 = .ok (.invokevirtual 360, 3) := by decide +kernel
theorem md_T_endTask_5 : decode mc_T_endTask 5 = .ok (.ifCond .eq 9, 3) := by decide +kernel
theorem md_T_endTask_8 : decode mc_T_endTask 8 = .ok (.aload_n 0, 1) := by decide +kernel
theorem md_T_endTask_9 : decode mc_T_endTask 9 = .ok (.iconst 3, 1) := by decide +kernel
theorem md_T_endTask_10 : decode mc_T_endTask 10 = .ok (.aload_n 1, 1) := by decide +kernel
theorem md_T_endTask_11 : decode mc_T_endTask 11 = .ok (.invokevirtual 319, 3) := by decide +kernel
theorem md_T_endTask_14 : decode mc_T_endTask 14 = .ok (.aload_n 1, 1) := by decide +kernel
theorem md_T_endTask_15 : decode mc_T_endTask 15 = .ok (.iconst 0, 1) := by decide +kernel
theorem md_T_endTask_16 : decode mc_T_endTask 16 = .ok (.putfield 172, 3) := by decide +kernel
theorem md_T_endTask_19 : decode mc_T_endTask 19 = .ok (.aload_n 1, 1) := by decide +kernel
theorem md_T_endTask_20 : decode mc_T_endTask 20 = .ok (.getfield 197, 3) := by decide +kernel
theorem md_T_endTask_23 : decode mc_T_endTask 23 = .ok (.aconst_null, 1) := by decide +kernel
theorem md_T_endTask_24 : decode mc_T_endTask 24 = .ok (.putfield 245, 3) := by decide +kernel
theorem md_T_endTask_27 : decode mc_T_endTask 27 = .ok (.aload_n 1, 1) := by decide +kernel
theorem md_T_endTask_28 : decode mc_T_endTask 28 = .ok (.getfield 354, 3) := by decide +kernel
theorem md_T_endTask_31 : decode mc_T_endTask 31 = .ok (.ifCond .le 18, 3) := by decide +kernel
theorem md_T_endTask_34 : decode mc_T_endTask 34 = .ok (.aload_n 1, 1) := by decide +kernel
theorem md_T_endTask_35 : decode mc_T_endTask 35 = .ok (.dup, 1) := by decide +kernel
theorem md_T_endTask_36 : decode mc_T_endTask 36 = .ok (.getfield 354, 3) := by decide +kernel
theorem md_T_endTask_39 : decode mc_T_endTask 39 = .ok (.iconst 1, 1) := by decide +kernel
theorem md_T_endTask_40 : decode mc_T_endTask 40 = .ok (.isub, 1) := by decide +kernel
theorem md_T_endTask_41 : decode mc_T_endTask 41 = .ok (.putfield 354, 3) := by decide +kernel
theorem md_T_endTask_44 : decode mc_T_endTask 44 = .ok (.aload_n 0, 1) := by decide +kernel
theorem md_T_endTask_45 : decode mc_T_endTask 45 = .ok (.aload_n 1, 1) := by decide +kernel
theorem md_T_endTask_46 : decode mc_T_endTask 46 = .ok (.invokevirtual 351, 3) := by decide +kernel
theorem md_T_endTask_49 : decode mc_T_endTask 49 = .ok (.return_, 1) := by decide +kernel
theorem md_T_freeAll_0 : decode mc_T_freeAll 0 = .ok (.aload_n 1, 1) := by decide +kernel
theorem md_T_freeAll_1 : decode mc_T_freeAll 1 = .ok (.getfield 326, 3) := by decide +kernel
theorem md_T_freeAll_4 : decode mc_T_freeAll 4 = .ok (.ifnonnull 10, 3) := by decide +kernel
theorem md_T_freeAll_7 : decode mc_T_freeAll 7 = .ok (.aload_n 1, 1) := by decide +kernel
theorem md_T_freeAll_8 : decode mc_T_freeAll 8 = .ok (.getfield 330, 3) := by decide +kernel
end
section
theorem md_T_freeAll_11 : decode mc_T_freeAll 11 = .ok (.ifCond .le 7, 3) := by decide +kernel
theorem md_T_freeAll_14 : decode mc_T_freeAll 14 = .ok (.iconst 1, 1) := by decide +kernel
theorem md_T_freeAll_15 : decode mc_T_freeAll 15 = .ok (.goto 4, 3) := by decide +kernel
theorem md_T_freeAll_18 : decode mc_T_freeAll 18 = .ok (.iconst 0, 1) := by decide +kernel
theorem md_T_freeAll_19 : decode mc_T_freeAll 19 = .ok (.istore_n 2, 1) := by decide +kernel
theorem md_T_freeAll_20 : decode mc_T_freeAll 20 = .ok (.aload_n 1, 1) := by decide +kernel
theorem md_T_freeAll_21 : decode mc_T_freeAll 21 = .ok (.getfield 326, 3) := by decide +kernel
theorem md_T_freeAll_24 : decode mc_T_freeAll 24 = .ok (.astore_n 3, 1) := by decide +kernel
theorem md_T_freeAll_25 : decode mc_T_freeAll 25 = .ok (.aload_n 3, 1) := by decide +kernel
theorem md_T_freeAll_26 : decode mc_T_freeAll 26 = .ok (.ifnull 16, 3) := by decide +kernel
theorem md_T_freeAll_29 : decode mc_T_freeAll 29 = .ok (.aload_n 3, 1) := by decide +kernel
theorem md_T_freeAll_30 : decode mc_T_freeAll 30 = .ok (.aconst_null, 1) := by decide +kernel
theorem md_T_freeAll_31 : decode mc_T_freeAll 31 = .ok (.putfield 208, 3) := by decide +kernel
theorem md_T_freeAll_34 : decode mc_T_freeAll 34 = .ok (.aload_n 3, 1) := by decide +kernel
theorem md_T_freeAll_35 : decode mc_T_freeAll 35 = .ok (.getfield 336, 3) := by decide +kernel
theorem md_T_freeAll_38 : decode mc_T_freeAll 38 = .ok (.astore_n 3, 1) := by decide +kernel
theorem md_T_freeAll_39 : decode mc_T_freeAll 39 = .ok (.goto (-14), 3) := by decide +kernel
theorem md_T_freeAll_42 : decode mc_T_freeAll 42 = .ok (.aload_n 1, 1) := by decide +kernel
theorem md_T_freeAll_43 : decode mc_T_freeAll 43 = .ok (.aconst_null, 1) := by decide +kernel
theorem md_T_freeAll_44 : decode mc_T_freeAll 44 = .ok (.putfield 326, 3) := by decide +kernel
theorem md_T_freeAll_47 : decode mc_T_freeAll 47 = .ok (.aload_n 0, 1) := by decide +kernel
theorem md_T_freeAll_48 : decode mc_T_freeAll 48 = .ok (.getfield 23, 3) := by decide +kernel
theorem md_T_freeAll_51 : decode mc_T_freeAll 51 = .ok (.astore_n 3, 1) := by decide +kernel
theorem md_T_freeAll_52 : decode mc_T_freeAll 52 = .ok (.aload_n 3, 1) := by decide +kernel
theorem md_T_freeAll_53 : decode mc_T_freeAll 53 = .ok (.arraylength, 1) := by decide +kernel
theorem md_T_freeAll_54 : decode mc_T_freeAll 54 = .ok (.istore 4, 2) := by decide +kernel
theorem md_T_freeAll_56 : decode mc_T_freeAll 56 = .ok (.iconst 0, 1) := by decide +kernel
theorem md_T_freeAll_57 : decode mc_T_freeAll 57 = .ok (.istore 5, 2) := by decide +kernel
theorem md_T_freeAll_59 : decode mc_T_freeAll 59 = .ok (.iload 5, 2) := by decide +kernel
theorem md_T_freeAll_61 : decode mc_T_freeAll 61 = .ok (.iload 4, 2) := by decide +kernel
theorem md_T_freeAll_63 : decode mc_T_freeAll 63 = .ok (.if_icmp .ge 29, 3) := by decide +kernel
theorem md_T_freeAll_66 : decode mc_T_freeAll 66 = .ok (.aload_n 3, 1) := by decide +kernel
theorem md_T_freeAll_67 : decode mc_T_freeAll 67 = .ok (.iload 5, 2) := by decide +kernel
theorem md_T_freeAll_69 : decode mc_T_freeAll 69 = .ok (.aaload, 1) := by decide +kernel
theorem md_T_freeAll_70 : decode mc_T_freeAll 70 = .ok (.astore 6, 2) := by decide +kernel
theorem md_T_freeAll_72 : decode mc_T_freeAll 72 = .ok (.aload 6, 2) := by decide +kernel
theorem md_T_freeAll_74 : decode mc_T_freeAll 74 = .ok (.getfield 193, 3) := by decide +kernel
theorem md_T_freeAll_77 : decode mc_T_freeAll 77 = .ok (.aload_n 1, 1) := by decide +kernel
theorem md_T_freeAll_78 : decode mc_T_freeAll 78 = .ok (.if_acmp .ne 8, 3) := by decide +kernel
theorem md_T_freeAll_81 : decode mc_T_freeAll 81 = .ok (.aload 6, 2) := by decide +kernel
theorem md_T_freeAll_83 : decode mc_T_freeAll 83 = .ok (.invokevirtual 339, 3) := by decide +kernel
theorem md_T_freeAll_86 : decode mc_T_freeAll 86 = .ok (.iinc 5 1, 3) := by decide +kernel
theorem md_T_freeAll_89 : decode mc_T_freeAll 89 = .ok (.goto (-30), 3) := by decide +kernel
theorem md_T_freeAll_92 : decode mc_T_freeAll 92 = .ok (.aload_n 1, 1) := by decide +kernel
theorem md_T_freeAll_93 : decode mc_T_freeAll 93 = .ok (.iconst 0, 1) := by decide +kernel
theorem md_T_freeAll_94 : decode mc_T_freeAll 94 = .ok (.putfield 330, 3) := by decide +kernel
theorem md_T_freeAll_97 : decode mc_T_freeAll 97 = .ok (.aload_n 0, 1) := by decide +kernel
theorem md_T_freeAll_98 : decode mc_T_freeAll 98 = .ok (.getfield 30, 3) := by decide +kernel
theorem md_T_freeAll_101 : decode mc_T_freeAll 101 = .ok (.getfield 342, 3) := by decide +kernel
theorem md_T_freeAll_104 : decode mc_T_freeAll 104 = .ok (.aload_n 1, 1) := by decide +kernel
theorem md_T_freeAll_105 : decode mc_T_freeAll 105 = .ok (.if_acmp .ne 13, 3) := by decide +kernel
theorem md_T_freeAll_108 : decode mc_T_freeAll 108 = .ok (.aload_n 0, 1) := by decide +kernel
theorem md_T_freeAll_109 : decode mc_T_freeAll 109 = .ok (.getfield 30, 3) := by decide +kernel
theorem md_T_freeAll_112 : decode mc_T_freeAll 112 = .ok (.aconst_null, 1) := by decide +kernel
theorem md_T_freeAll_113 : decode mc_T_freeAll 113 = .ok (.putfield 342, 3) := by decide +kernel
theorem md_T_freeAll_116 : decode mc_T_freeAll 116 = .ok (.iconst 1, 1) := by decide +kernel
theorem md_T_freeAll_117 : decode mc_T_freeAll 117 = .ok (.istore_n 2, 1) := by decide +kernel
theorem md_T_freeAll_118 : decode mc_T_freeAll 118 = .ok (.iload_n 2, 1) := by decide +kernel
theorem md_T_freeAll_119 : decode mc_T_freeAll 119 = .ok (.ireturn, 1) := by decide +kernel
theorem md_T_startTask_0 : decode mc_T_startTask 0 = .ok (.aload_n 1, 1) := by decide +kernel
theorem md_T_startTask_1 : decode mc_T_startTask 1 = .ok (.iconst 0, 1) := by decide +kernel
theorem md_T_startTask_2 : decode mc_T_startTask 2 = .ok (.putfield 183, 3) := by decide +kernel
theorem md_T_startTask_5 : decode mc_T_startTask 5 = .ok (.aload_n 1, 1) := by decide +kernel
theorem md_T_startTask_6 : decode mc_T_startTask 6 = .ok (.aload_n 1, 1) := by decide +kernel
theorem md_T_startTask_7 : decode mc_T_startTask 7 = .ok (.getfield 363, 3) := by decide +kernel
theorem md_T_startTask_10 : decode mc_T_startTask 10 = .ok (.putfield 248, 3) := by decide +kernel
theorem md_T_startTask_13 : decode mc_T_startTask 13 = .ok (.aload_n 0, 1) := by decide +kernel
theorem md_T_startTask_14 : decode mc_T_startTask 14 = .ok (.aload_n 1, 1) := by decide +kernel
theorem md_T_startTask_15 : decode mc_T_startTask 15 = .ok (.invokevirtual 348, 3) := by decide +kernel
theorem md_T_startTask_18 : decode mc_T_startTask 18 = .ok (.return_, 1) := by decide +kernel
theorem md_T_makeReady_0 : decode mc_T_makeReady 0 = .ok (.aload_n 0, 1) := by decide +kernel
theorem md_T_makeReady_1 : decode mc_T_makeReady 1 = .ok (.dup, 1) := by decide +kernel
theorem md_T_makeReady_2 : decode mc_T_makeReady 2 = .ok (.getfield 366, 3) := by decide +kernel
theorem md_T_makeReady_5 : decode mc_T_makeReady 5 = .ok (.iconst 1, 1) := by decide +kernel
theorem md_T_makeReady_6 : decode mc_T_makeReady 6 = .ok (.iadd, 1) := by decide +kernel
theorem md_T_makeReady_7 : decode mc_T_makeReady 7 = .ok (.putfield 366, 3) := by decide +kernel
theorem md_T_makeReady_10 : decode mc_T_makeReady 10 = .ok (.aload_n 1, 1) := by decide +kernel
theorem md_T_makeReady_11 : decode mc_T_makeReady 11 = .ok (.aload_n 0, 1) := by decide +kernel
theorem md_T_makeReady_12 : decode mc_T_makeReady 12 = .ok (.getfield 366, 3) := by decide +kernel
theorem md_T_makeReady_15 : decode mc_T_makeReady 15 = .ok (.putfield 369, 3) := by decide +kernel
theorem md_T_makeReady_18 : decode mc_T_makeReady 18 = .ok (.aload_n 1, 1) := by decide +kernel
theorem md_T_makeReady_19 : decode mc_T_makeReady 19 = .ok (.iconst 1, 1) := by decide +kernel
theorem md_T_makeReady_20 : decode mc_T_makeReady 20 = .ok (.putfield 172, 3) := by decide +kernel
theorem md_T_makeReady_23 : decode mc_T_makeReady 23 = .ok (.return_, 1) := by decide +kernel
theorem md_T_tellCode_0 : decode mc_T_tellCode 0 = .ok (.aload_n 0, 1) := by decide +kernel
theorem md_T_tellCode_1 : decode mc_T_tellCode 1 = .ok (.getfield 39, 3) := by decide +kernel
theorem md_T_tellCode_4 : decode mc_T_tellCode 4 = .ok (.iload_n 1, 1) := by decide +kernel
theorem md_T_tellCode_5 : decode mc_T_tellCode 5 = .ok (.aload_n 2, 1) := by decide +kernel
theorem md_T_tellCode_6 : decode mc_T_tellCode 6 = .ok (.getfield 201, 3) := by decide +kernel
theorem md_T_tellCode_9 : decode mc_T_tellCode 9 = .ok (.aload_n 0, 1) := by decide +kernel
theorem md_T_tellCode_10 : decode mc_T_tellCode 10 = .ok (.getfield 60, 3) := by decide +kernel
theorem md_T_tellCode_13 : decode mc_T_tellCode 13 = .ok (.invokevirtual 372, 3) := by decide +kernel
theorem md_T_tellCode_16 : decode mc_T_tellCode 16 = .ok (.return_, 1) := by decide +kernel
theorem md_T_tellIfOffTooLong_0 : decode mc_T_tellIfOffTooLong 0 = .ok (.aload_n 0, 1) := by decide +kernel
theorem md_T_tellIfOffTooLong_1 : decode mc_T_tellIfOffTooLong 1 = .ok (.getfield 30, 3) := by decide +kernel
theorem md_T_tellIfOffTooLong_4 : decode mc_T_tellIfOffTooLong 4 = .ok (.getfield 342, 3) := by decide +kernel
theorem md_T_tellIfOffTooLong_7 : decode mc_T_tellIfOffTooLong 7 = .ok (.astore_n 1, 1) := by decide +kernel
theorem md_T_tellIfOffTooLong_8 : decode mc_T_tellIfOffTooLong 8 = .ok (.aload_n 1, 1) := by decide +kernel
theorem md_T_tellIfOffTooLong_9 : decode mc_T_tellIfOffTooLong 9 = .ok (.ifnull 24, 3) := by decide +kernel
theorem md_T_tellIfOffTooLong_12 : decode mc_T_tellIfOffTooLong 12 = .ok (.aload_n 0, 1) := by decide +kernel
theorem md_T_tellIfOffTooLong_13 : decode mc_T_tellIfOffTooLong 13 = .ok (.getfield 30, 3) := by decide +kernel
theorem md_T_tellIfOffTooLong_16 : decode mc_T_tellIfOffTooLong 16 = .ok (.getfield 345, 3) := by decide +kernel
theorem md_T_tellIfOffTooLong_19 : decode mc_T_tellIfOffTooLong 19 = .ok (.aload_n 0, 1) := by decide +kernel
theorem md_T_tellIfOffTooLong_20 : decode mc_T_tellIfOffTooLong 20 = .ok (.getfield 60, 3) := by decide +kernel
theorem md_T_tellIfOffTooLong_23 : decode mc_T_tellIfOffTooLong 23 = .ok (.if_icmp .ne 10, 3) := by decide +kernel
theorem md_T_tellIfOffTooLong_26 : decode mc_T_tellIfOffTooLong 26 = .ok (.aload_n 0, 1) := by decide +kernel
theorem md_T_tellIfOffTooLong_27 : decode mc_T_tellIfOffTooLong 27 = .ok (.bipush 9, 2) := by decide +kernel
theorem md_T_tellIfOffTooLong_29 : decode mc_T_tellIfOffTooLong 29 = .ok (.aload_n 1, 1) := by decide +kernel
theorem md_T_tellIfOffTooLong_30 : decode mc_T_tellIfOffTooLong 30 = .ok (.invokevirtual 319, 3) := by decide +kernel
theorem md_T_tellIfOffTooLong_33 : decode mc_T_tellIfOffTooLong 33 = .ok (.return_, 1) := by decide +kernel
theorem md_T_quietMicroseconds_0 : decode mc_T_quietMicroseconds 0 = .ok (.aload_n 0, 1) := by decide +kernel
theorem md_T_quietMicroseconds_1 : decode mc_T_quietMicroseconds 1 = .ok (.getfield 30, 3) := by decide +kernel
theorem md_T_quietMicroseconds_4 : decode mc_T_quietMicroseconds 4 = .ok (.aload_n 0, 1) := by decide +kernel
theorem md_T_quietMicroseconds_5 : decode mc_T_quietMicroseconds 5 = .ok (.getfield 60, 3) := by decide +kernel
theorem md_T_quietMicroseconds_8 : decode mc_T_quietMicroseconds 8 = .ok (.invokevirtual 241, 3) := by decide +kernel
theorem md_T_quietMicroseconds_11 : decode mc_T_quietMicroseconds 11 = .ok (.astore_n 2, 1) := by decide +kernel
theorem md_T_quietMicroseconds_12 : decode mc_T_quietMicroseconds 12 = .ok (.iload_n 1, 1) := by decide +kernel
theorem md_T_quietMicroseconds_13 : decode mc_T_quietMicroseconds 13 = .ok (.aload_n 0, 1) := by decide +kernel
theorem md_T_quietMicroseconds_14 : decode mc_T_quietMicroseconds 14 = .ok (.getfield 30, 3) := by decide +kernel
theorem md_T_quietMicroseconds_17 : decode mc_T_quietMicroseconds 17 = .ok (.aload_n 0, 1) := by decide +kernel
theorem md_T_quietMicroseconds_18 : decode mc_T_quietMicroseconds 18 = .ok (.getfield 60, 3) := by decide +kernel
theorem md_T_quietMicroseconds_21 : decode mc_T_quietMicroseconds 21 = .ok (.invokevirtual 374, 3) := by decide +kernel
theorem md_T_quietMicroseconds_24 : decode mc_T_quietMicroseconds 24 = .ok (.invokestatic 377, 3) := by decide +kernel
theorem md_T_quietMicroseconds_27 : decode mc_T_quietMicroseconds 27 = .ok (.istore_n 3, 1) := by decide +kernel
theorem md_T_quietMicroseconds_28 : decode mc_T_quietMicroseconds 28 = .ok (.aload_n 0, 1) := by decide +kernel
theorem md_T_quietMicroseconds_29 : decode mc_T_quietMicroseconds 29 = .ok (.getfield 220, 3) := by decide +kernel
theorem md_T_quietMicroseconds_32 : decode mc_T_quietMicroseconds 32 = .ok (.ifnull 15, 3) := by decide +kernel
theorem md_T_quietMicroseconds_35 : decode mc_T_quietMicroseconds 35 = .ok (.iload_n 3, 1) := by decide +kernel
theorem md_T_quietMicroseconds_36 : decode mc_T_quietMicroseconds 36 = .ok (.aload_n 0, 1) := by decide +kernel
theorem md_T_quietMicroseconds_37 : decode mc_T_quietMicroseconds 37 = .ok (.getfield 220, 3) := by decide +kernel
theorem md_T_quietMicroseconds_40 : decode mc_T_quietMicroseconds 40 = .ok (.getfield 224, 3) := by decide +kernel
theorem md_T_quietMicroseconds_43 : decode mc_T_quietMicroseconds 43 = .ok (.invokestatic 377, 3) := by decide +kernel
theorem md_T_quietMicroseconds_46 : decode mc_T_quietMicroseconds 46 = .ok (.istore_n 3, 1) := by decide +kernel
theorem md_T_quietMicroseconds_47 : decode mc_T_quietMicroseconds 47 = .ok (.aload_n 2, 1) := by decide +kernel
theorem md_T_quietMicroseconds_48 : decode mc_T_quietMicroseconds 48 = .ok (.ifnull 17, 3) := by decide +kernel
theorem md_T_quietMicroseconds_51 : decode mc_T_quietMicroseconds 51 = .ok (.iload_n 3, 1) := by decide +kernel
theorem md_T_quietMicroseconds_52 : decode mc_T_quietMicroseconds 52 = .ok (.aload_n 0, 1) := by decide +kernel
theorem md_T_quietMicroseconds_53 : decode mc_T_quietMicroseconds 53 = .ok (.getfield 60, 3) := by decide +kernel
theorem md_T_quietMicroseconds_56 : decode mc_T_quietMicroseconds 56 = .ok (.aload_n 2, 1) := by decide +kernel
theorem md_T_quietMicroseconds_57 : decode mc_T_quietMicroseconds 57 = .ok (.getfield 380, 3) := by decide +kernel
theorem md_T_quietMicroseconds_60 : decode mc_T_quietMicroseconds 60 = .ok (.iadd, 1) := by decide +kernel
theorem md_T_quietMicroseconds_61 : decode mc_T_quietMicroseconds 61 = .ok (.invokestatic 377, 3) := by decide +kernel
theorem md_T_quietMicroseconds_64 : decode mc_T_quietMicroseconds 64 = .ok (.istore_n 3, 1) := by decide +kernel
theorem md_T_quietMicroseconds_65 : decode mc_T_quietMicroseconds 65 = .ok (.aload_n 0, 1) := by decide +kernel
theorem md_T_quietMicroseconds_66 : decode mc_T_quietMicroseconds 66 = .ok (.getfield 45, 3) := by decide +kernel
theorem md_T_quietMicroseconds_69 : decode mc_T_quietMicroseconds 69 = .ok (.astore 4, 2) := by decide +kernel
theorem md_T_quietMicroseconds_71 : decode mc_T_quietMicroseconds 71 = .ok (.aload 4, 2) := by decide +kernel
theorem md_T_quietMicroseconds_73 : decode mc_T_quietMicroseconds 73 = .ok (.arraylength, 1) := by decide +kernel
theorem md_T_quietMicroseconds_74 : decode mc_T_quietMicroseconds 74 = .ok (.istore 5, 2) := by decide +kernel
theorem md_T_quietMicroseconds_76 : decode mc_T_quietMicroseconds 76 = .ok (.iconst 0, 1) := by decide +kernel
theorem md_T_quietMicroseconds_77 : decode mc_T_quietMicroseconds 77 = .ok (.istore 6, 2) := by decide +kernel
theorem md_T_quietMicroseconds_79 : decode mc_T_quietMicroseconds 79 = .ok (.iload 6, 2) := by decide +kernel
theorem md_T_quietMicroseconds_81 : decode mc_T_quietMicroseconds 81 = .ok (.iload 5, 2) := by decide +kernel
theorem md_T_quietMicroseconds_83 : decode mc_T_quietMicroseconds 83 = .ok (.if_icmp .ge 66, 3) := by decide +kernel
theorem md_T_quietMicroseconds_86 : decode mc_T_quietMicroseconds 86 = .ok (.aload 4, 2) := by decide +kernel
theorem md_T_quietMicroseconds_88 : decode mc_T_quietMicroseconds 88 = .ok (.iload 6, 2) := by decide +kernel
theorem md_T_quietMicroseconds_90 : decode mc_T_quietMicroseconds 90 = .ok (.aaload, 1) := by decide +kernel
theorem md_T_quietMicroseconds_91 : decode mc_T_quietMicroseconds 91 = .ok (.astore 7, 2) := by decide +kernel
theorem md_T_quietMicroseconds_93 : decode mc_T_quietMicroseconds 93 = .ok (.aload 7, 2) := by decide +kernel
theorem md_T_quietMicroseconds_95 : decode mc_T_quietMicroseconds 95 = .ok (.getfield 240, 3) := by decide +kernel
theorem md_T_quietMicroseconds_98 : decode mc_T_quietMicroseconds 98 = .ok (.ifCond .ne 11, 3) := by decide +kernel
theorem md_T_quietMicroseconds_101 : decode mc_T_quietMicroseconds 101 = .ok (.aload_n 2, 1) := by decide +kernel
theorem md_T_quietMicroseconds_102 : decode mc_T_quietMicroseconds 102 = .ok (.ifnull 7, 3) := by decide +kernel
theorem md_T_quietMicroseconds_105 : decode mc_T_quietMicroseconds 105 = .ok (.iconst 1, 1) := by decide +kernel
theorem md_T_quietMicroseconds_106 : decode mc_T_quietMicroseconds 106 = .ok (.goto 4, 3) := by decide +kernel
theorem md_T_quietMicroseconds_109 : decode mc_T_quietMicroseconds 109 = .ok (.iconst 0, 1) := by decide +kernel
theorem md_T_quietMicroseconds_110 : decode mc_T_quietMicroseconds 110 = .ok (.istore 8, 2) := by decide +kernel
theorem md_T_quietMicroseconds_112 : decode mc_T_quietMicroseconds 112 = .ok (.aload 7, 2) := by decide +kernel
theorem md_T_quietMicroseconds_114 : decode mc_T_quietMicroseconds 114 = .ok (.getfield 245, 3) := by decide +kernel
theorem md_T_quietMicroseconds_117 : decode mc_T_quietMicroseconds 117 = .ok (.ifnull 26, 3) := by decide +kernel
theorem md_T_quietMicroseconds_120 : decode mc_T_quietMicroseconds 120 = .ok (.iload 8, 2) := by decide +kernel
theorem md_T_quietMicroseconds_122 : decode mc_T_quietMicroseconds 122 = .ok (.ifCond .ne 21, 3) := by decide +kernel
theorem md_T_quietMicroseconds_125 : decode mc_T_quietMicroseconds 125 = .ok (.iload_n 3, 1) := by decide +kernel
theorem md_T_quietMicroseconds_126 : decode mc_T_quietMicroseconds 126 = .ok (.aload_n 0, 1) := by decide +kernel
theorem md_T_quietMicroseconds_127 : decode mc_T_quietMicroseconds 127 = .ok (.getfield 60, 3) := by decide +kernel
theorem md_T_quietMicroseconds_130 : decode mc_T_quietMicroseconds 130 = .ok (.aload 7, 2) := by decide +kernel
theorem md_T_quietMicroseconds_132 : decode mc_T_quietMicroseconds 132 = .ok (.getfield 245, 3) := by decide +kernel
theorem md_T_quietMicroseconds_135 : decode mc_T_quietMicroseconds 135 = .ok (.invokevirtual 383, 3) := by decide +kernel
theorem md_T_quietMicroseconds_138 : decode mc_T_quietMicroseconds 138 = .ok (.iadd, 1) := by decide +kernel
theorem md_T_quietMicroseconds_139 : decode mc_T_quietMicroseconds 139 = .ok (.invokestatic 377, 3) := by decide +kernel
theorem md_T_quietMicroseconds_142 : decode mc_T_quietMicroseconds 142 = .ok (.istore_n 3, 1) := by decide +kernel
theorem md_T_quietMicroseconds_143 : decode mc_T_quietMicroseconds 143 = .ok (.iinc 6 1, 3) := by decide +kernel
theorem md_T_quietMicroseconds_146 : decode mc_T_quietMicroseconds 146 = .ok (.goto (-67), 3) := by decide +kernel
theorem md_T_quietMicroseconds_149 : decode mc_T_quietMicroseconds 149 = .ok (.iconst 1, 1) := by decide +kernel
theorem md_T_quietMicroseconds_150 : decode mc_T_quietMicroseconds 150 = .ok (.iload_n 3, 1) := by decide +kernel
theorem md_T_quietMicroseconds_151 : decode mc_T_quietMicroseconds 151 = .ok (.aload_n 0, 1) := by decide +kernel
theorem md_T_quietMicroseconds_152 : decode mc_T_quietMicroseconds 152 = .ok (.getfield 60, 3) := by decide +kernel
theorem md_T_quietMicroseconds_155 : decode mc_T_quietMicroseconds 155 = .ok (.isub, 1) := by decide +kernel
theorem md_T_quietMicroseconds_156 : decode mc_T_quietMicroseconds 156 = .ok (.invokestatic 95, 3) := by decide +kernel
theorem md_T_quietMicroseconds_159 : decode mc_T_quietMicroseconds 159 = .ok (.ireturn, 1) := by decide +kernel
theorem md_T_passMicroseconds_0 : decode mc_T_passMicroseconds 0 = .ok (.aload_n 0, 1) := by decide +kernel
theorem md_T_passMicroseconds_1 : decode mc_T_passMicroseconds 1 = .ok (.getfield 30, 3) := by decide +kernel
theorem md_T_passMicroseconds_4 : decode mc_T_passMicroseconds 4 = .ok (.aload_n 0, 1) := by decide +kernel
theorem md_T_passMicroseconds_5 : decode mc_T_passMicroseconds 5 = .ok (.getfield 60, 3) := by decide +kernel
theorem md_T_passMicroseconds_8 : decode mc_T_passMicroseconds 8 = .ok (.invokevirtual 241, 3) := by decide +kernel
theorem md_T_passMicroseconds_11 : decode mc_T_passMicroseconds 11 = .ok (.astore_n 2, 1) := by decide +kernel
theorem md_T_passMicroseconds_12 : decode mc_T_passMicroseconds 12 = .ok (.iconst 0, 1) := by decide +kernel
theorem md_T_passMicroseconds_13 : decode mc_T_passMicroseconds 13 = .ok (.istore_n 3, 1) := by decide +kernel
theorem md_T_passMicroseconds_14 : decode mc_T_passMicroseconds 14 = .ok (.aload_n 0, 1) := by decide +kernel
theorem md_T_passMicroseconds_15 : decode mc_T_passMicroseconds 15 = .ok (.getfield 45, 3) := by decide +kernel
theorem md_T_passMicroseconds_18 : decode mc_T_passMicroseconds 18 = .ok (.astore 4, 2) := by decide +kernel
theorem md_T_passMicroseconds_20 : decode mc_T_passMicroseconds 20 = .ok (.aload 4, 2) := by decide +kernel
theorem md_T_passMicroseconds_22 : decode mc_T_passMicroseconds 22 = .ok (.arraylength, 1) := by decide +kernel
theorem md_T_passMicroseconds_23 : decode mc_T_passMicroseconds 23 = .ok (.istore 5, 2) := by decide +kernel
theorem md_T_passMicroseconds_25 : decode mc_T_passMicroseconds 25 = .ok (.iconst 0, 1) := by decide +kernel
theorem md_T_passMicroseconds_26 : decode mc_T_passMicroseconds 26 = .ok (.istore 6, 2) := by decide +kernel
theorem md_T_passMicroseconds_28 : decode mc_T_passMicroseconds 28 = .ok (.iload 6, 2) := by decide +kernel
theorem md_T_passMicroseconds_30 : decode mc_T_passMicroseconds 30 = .ok (.iload 5, 2) := by decide +kernel
theorem md_T_passMicroseconds_32 : decode mc_T_passMicroseconds 32 = .ok (.if_icmp .ge 117, 3) := by decide +kernel
theorem md_T_passMicroseconds_35 : decode mc_T_passMicroseconds 35 = .ok (.aload 4, 2) := by decide +kernel
theorem md_T_passMicroseconds_37 : decode mc_T_passMicroseconds 37 = .ok (.iload 6, 2) := by decide +kernel
theorem md_T_passMicroseconds_39 : decode mc_T_passMicroseconds 39 = .ok (.aaload, 1) := by decide +kernel
theorem md_T_passMicroseconds_40 : decode mc_T_passMicroseconds 40 = .ok (.astore 7, 2) := by decide +kernel
theorem md_T_passMicroseconds_42 : decode mc_T_passMicroseconds 42 = .ok (.aload 7, 2) := by decide +kernel
theorem md_T_passMicroseconds_44 : decode mc_T_passMicroseconds 44 = .ok (.getfield 245, 3) := by decide +kernel
theorem md_T_passMicroseconds_47 : decode mc_T_passMicroseconds 47 = .ok (.astore 8, 2) := by decide +kernel
theorem md_T_passMicroseconds_49 : decode mc_T_passMicroseconds 49 = .ok (.aload 8, 2) := by decide +kernel
theorem md_T_passMicroseconds_51 : decode mc_T_passMicroseconds 51 = .ok (.ifnonnull 7, 3) := by decide +kernel
theorem md_T_passMicroseconds_54 : decode mc_T_passMicroseconds 54 = .ok (.iconst 0, 1) := by decide +kernel
theorem md_T_passMicroseconds_55 : decode mc_T_passMicroseconds 55 = .ok (.goto 8, 3) := by decide +kernel
theorem md_T_passMicroseconds_58 : decode mc_T_passMicroseconds 58 = .ok (.aload 8, 2) := by decide +kernel
theorem md_T_passMicroseconds_60 : decode mc_T_passMicroseconds 60 = .ok (.getfield 201, 3) := by decide +kernel
theorem md_T_passMicroseconds_63 : decode mc_T_passMicroseconds 63 = .ok (.istore 9, 2) := by decide +kernel
theorem md_T_passMicroseconds_65 : decode mc_T_passMicroseconds 65 = .ok (.aload 7, 2) := by decide +kernel
theorem md_T_passMicroseconds_67 : decode mc_T_passMicroseconds 67 = .ok (.getfield 240, 3) := by decide +kernel
theorem md_T_passMicroseconds_70 : decode mc_T_passMicroseconds 70 = .ok (.ifCond .ne 20, 3) := by decide +kernel
theorem md_T_passMicroseconds_73 : decode mc_T_passMicroseconds 73 = .ok (.aload_n 2, 1) := by decide +kernel
theorem md_T_passMicroseconds_74 : decode mc_T_passMicroseconds 74 = .ok (.ifnull 16, 3) := by decide +kernel
theorem md_T_passMicroseconds_77 : decode mc_T_passMicroseconds 77 = .ok (.sipush 1000, 3) := by decide +kernel
theorem md_T_passMicroseconds_80 : decode mc_T_passMicroseconds 80 = .ok (.aload_n 2, 1) := by decide +kernel
theorem md_T_passMicroseconds_81 : decode mc_T_passMicroseconds 81 = .ok (.getfield 387, 3) := by decide +kernel
theorem md_T_passMicroseconds_84 : decode mc_T_passMicroseconds 84 = .ok (.iadd, 1) := by decide +kernel
theorem md_T_passMicroseconds_85 : decode mc_T_passMicroseconds 85 = .ok (.istore 9, 2) := by decide +kernel
theorem md_T_passMicroseconds_87 : decode mc_T_passMicroseconds 87 = .ok (.goto 14, 3) := by decide +kernel
theorem md_T_passMicroseconds_90 : decode mc_T_passMicroseconds 90 = .ok (.aload 8, 2) := by decide +kernel
theorem md_T_passMicroseconds_92 : decode mc_T_passMicroseconds 92 = .ok (.ifnull 9, 3) := by decide +kernel
theorem md_T_passMicroseconds_95 : decode mc_T_passMicroseconds 95 = .ok (.aload 8, 2) := by decide +kernel
theorem md_T_passMicroseconds_97 : decode mc_T_passMicroseconds 97 = .ok (.iload_n 1, 1) := by decide +kernel
theorem md_T_passMicroseconds_98 : decode mc_T_passMicroseconds 98 = .ok (.invokevirtual 390, 3) := by decide +kernel
theorem md_T_passMicroseconds_101 : decode mc_T_passMicroseconds 101 = .ok (.iload 9, 2) := by decide +kernel
theorem md_T_passMicroseconds_103 : decode mc_T_passMicroseconds 103 = .ok (.aload 7, 2) := by decide +kernel
theorem md_T_passMicroseconds_105 : decode mc_T_passMicroseconds 105 = .ok (.getfield 393, 3) := by decide +kernel
theorem md_T_passMicroseconds_108 : decode mc_T_passMicroseconds 108 = .ok (.if_icmp .eq 35, 3) := by decide +kernel
theorem md_T_passMicroseconds_111 : decode mc_T_passMicroseconds 111 = .ok (.aload 7, 2) := by decide +kernel
theorem md_T_passMicroseconds_113 : decode mc_T_passMicroseconds 113 = .ok (.aload_n 0, 1) := by decide +kernel
theorem md_T_passMicroseconds_114 : decode mc_T_passMicroseconds 114 = .ok (.getfield 60, 3) := by decide +kernel
theorem md_T_passMicroseconds_117 : decode mc_T_passMicroseconds 117 = .ok (.iload 9, 2) := by decide +kernel
theorem md_T_passMicroseconds_119 : decode mc_T_passMicroseconds 119 = .ok (.invokevirtual 396, 3) := by decide +kernel
theorem md_T_passMicroseconds_122 : decode mc_T_passMicroseconds 122 = .ok (.aload_n 0, 1) := by decide +kernel
theorem md_T_passMicroseconds_123 : decode mc_T_passMicroseconds 123 = .ok (.getfield 53, 3) := by decide +kernel
theorem md_T_passMicroseconds_126 : decode mc_T_passMicroseconds 126 = .ok (.aload_n 0, 1) := by decide +kernel
theorem md_T_passMicroseconds_127 : decode mc_T_passMicroseconds 127 = .ok (.getfield 60, 3) := by decide +kernel
theorem md_T_passMicroseconds_130 : decode mc_T_passMicroseconds 130 = .ok (.aload 7, 2) := by decide +kernel
theorem md_T_passMicroseconds_132 : decode mc_T_passMicroseconds 132 = .ok (.getfield 240, 3) := by decide +kernel
theorem md_T_passMicroseconds_135 : decode mc_T_passMicroseconds 135 = .ok (.iload 9, 2) := by decide +kernel
theorem md_T_passMicroseconds_137 : decode mc_T_passMicroseconds 137 = .ok (.invokevirtual 372, 3) := by decide +kernel
theorem md_T_passMicroseconds_140 : decode mc_T_passMicroseconds 140 = .ok (.iinc 3 1, 3) := by decide +kernel
theorem md_T_passMicroseconds_143 : decode mc_T_passMicroseconds 143 = .ok (.iinc 6 1, 3) := by decide +kernel
theorem md_T_passMicroseconds_146 : decode mc_T_passMicroseconds 146 = .ok (.goto (-118), 3) := by decide +kernel
theorem md_T_passMicroseconds_149 : decode mc_T_passMicroseconds 149 = .ok (.aload_n 2, 1) := by decide +kernel
theorem md_T_passMicroseconds_150 : decode mc_T_passMicroseconds 150 = .ok (.ifnull 12, 3) := by decide +kernel
theorem md_T_passMicroseconds_153 : decode mc_T_passMicroseconds 153 = .ok (.aload_n 0, 1) := by decide +kernel
theorem md_T_passMicroseconds_154 : decode mc_T_passMicroseconds 154 = .ok (.getfield 30, 3) := by decide +kernel
theorem md_T_passMicroseconds_157 : decode mc_T_passMicroseconds 157 = .ok (.aload_n 2, 1) := by decide +kernel
theorem md_T_passMicroseconds_158 : decode mc_T_passMicroseconds 158 = .ok (.iload_n 1, 1) := by decide +kernel
theorem md_T_passMicroseconds_159 : decode mc_T_passMicroseconds 159 = .ok (.invokevirtual 399, 3) := by decide +kernel
theorem md_T_passMicroseconds_162 : decode mc_T_passMicroseconds 162 = .ok (.aload_n 0, 1) := by decide +kernel
theorem md_T_passMicroseconds_163 : decode mc_T_passMicroseconds 163 = .ok (.dup, 1) := by decide +kernel
theorem md_T_passMicroseconds_164 : decode mc_T_passMicroseconds 164 = .ok (.getfield 60, 3) := by decide +kernel
theorem md_T_passMicroseconds_167 : decode mc_T_passMicroseconds 167 = .ok (.iload_n 1, 1) := by decide +kernel
theorem md_T_passMicroseconds_168 : decode mc_T_passMicroseconds 168 = .ok (.iadd, 1) := by decide +kernel
theorem md_T_passMicroseconds_169 : decode mc_T_passMicroseconds 169 = .ok (.putfield 60, 3) := by decide +kernel
theorem md_T_passMicroseconds_172 : decode mc_T_passMicroseconds 172 = .ok (.iload_n 3, 1) := by decide +kernel
theorem md_T_passMicroseconds_173 : decode mc_T_passMicroseconds 173 = .ok (.ireturn, 1) := by decide +kernel
theorem md_M_init_0 : decode mc_M_init 0 = .ok (.aload_n 0, 1) := by decide +kernel
theorem md_M_init_1 : decode mc_M_init 1 = .ok (.invokespecial 1, 3) := by decide +kernel
theorem md_M_init_4 : decode mc_M_init 4 = .ok (.aload_n 0, 1) := by decide +kernel
theorem md_M_init_5 : decode mc_M_init 5 = .ok (.bipush 101, 2) := by decide +kernel
theorem md_M_init_7 : decode mc_M_init 7 = .ok (.newarray .int, 2) := by decide +kernel
theorem md_M_init_9 : decode mc_M_init 9 = .ok (.putfield 7, 3) := by decide +kernel
theorem md_M_init_12 : decode mc_M_init 12 = .ok (.aload_n 0, 1) := by decide +kernel
theorem md_M_init_13 : decode mc_M_init 13 = .ok (.bipush 101, 2) := by decide +kernel
theorem md_M_init_15 : decode mc_M_init 15 = .ok (.newarray .int, 2) := by decide +kernel
theorem md_M_init_17 : decode mc_M_init 17 = .ok (.putfield 13, 3) := by decide +kernel
theorem md_M_init_20 : decode mc_M_init 20 = .ok (.aload_n 0, 1) := by decide +kernel
theorem md_M_init_21 : decode mc_M_init 21 = .ok (.bipush 101, 2) := by decide +kernel
theorem md_M_init_23 : decode mc_M_init 23 = .ok (.newarray .int, 2) := by decide +kernel
theorem md_M_init_25 : decode mc_M_init 25 = .ok (.putfield 16, 3) := by decide +kernel
theorem md_M_init_28 : decode mc_M_init 28 = .ok (.aload_n 0, 1) := by decide +kernel
theorem md_M_init_29 : decode mc_M_init 29 = .ok (.bipush 101, 2) := by decide +kernel
theorem md_M_init_31 : decode mc_M_init 31 = .ok (.newarray .boolean, 2) := by decide +kernel
theorem md_M_init_33 : decode mc_M_init 33 = .ok (.putfield 19, 3) := by decide +kernel
theorem md_M_init_36 : decode mc_M_init 36 = .ok (.aload_n 0, 1) := by decide +kernel
theorem md_M_init_37 : decode mc_M_init 37 = .ok (.bipush 101, 2) := by decide +kernel
theorem md_M_init_39 : decode mc_M_init 39 = .ok (.newarray .boolean, 2) := by decide +kernel
theorem md_M_init_41 : decode mc_M_init 41 = .ok (.putfield 23, 3) := by decide +kernel
theorem md_M_init_44 : decode mc_M_init 44 = .ok (.aload_n 0, 1) := by decide +kernel
theorem md_M_init_45 : decode mc_M_init 45 = .ok (.sipush 500, 3) := by decide +kernel
theorem md_M_init_48 : decode mc_M_init 48 = .ok (.newarray .int, 2) := by decide +kernel
theorem md_M_init_50 : decode mc_M_init 50 = .ok (.putfield 26, 3) := by decide +kernel
theorem md_M_init_53 : decode mc_M_init 53 = .ok (.aload_n 0, 1) := by decide +kernel
theorem md_M_init_54 : decode mc_M_init 54 = .ok (.sipush 500, 3) := by decide +kernel
theorem md_M_init_57 : decode mc_M_init 57 = .ok (.newarray .int, 2) := by decide +kernel
theorem md_M_init_59 : decode mc_M_init 59 = .ok (.putfield 29, 3) := by decide +kernel
theorem md_M_init_62 : decode mc_M_init 62 = .ok (.aload_n 0, 1) := by decide +kernel
theorem md_M_init_63 : decode mc_M_init 63 = .ok (.sipush 500, 3) := by decide +kernel
theorem md_M_init_66 : decode mc_M_init 66 = .ok (.newarray .long, 2) := by decide +kernel
theorem md_M_init_68 : decode mc_M_init 68 = .ok (.putfield 32, 3) := by decide +kernel
theorem md_M_init_71 : decode mc_M_init 71 = .ok (.aload_n 0, 1) := by decide +kernel
theorem md_M_init_72 : decode mc_M_init 72 = .ok (.bipush 101, 2) := by decide +kernel
theorem md_M_init_74 : decode mc_M_init 74 = .ok (.newarray .int, 2) := by decide +kernel
theorem md_M_init_76 : decode mc_M_init 76 = .ok (.putfield 36, 3) := by decide +kernel
theorem md_M_init_79 : decode mc_M_init 79 = .ok (.aload_n 0, 1) := by decide +kernel
theorem md_M_init_80 : decode mc_M_init 80 = .ok (.bipush 101, 2) := by decide +kernel
theorem md_M_init_82 : decode mc_M_init 82 = .ok (.newarray .long, 2) := by decide +kernel
theorem md_M_init_84 : decode mc_M_init 84 = .ok (.putfield 39, 3) := by decide +kernel
theorem md_M_init_87 : decode mc_M_init 87 = .ok (.aload_n 0, 1) := by decide +kernel
theorem md_M_init_88 : decode mc_M_init 88 = .ok (.bipush 101, 2) := by decide +kernel
theorem md_M_init_90 : decode mc_M_init 90 = .ok (.newarray .int, 2) := by decide +kernel
theorem md_M_init_92 : decode mc_M_init 92 = .ok (.putfield 42, 3) := by decide +kernel
theorem md_M_init_95 : decode mc_M_init 95 = .ok (.aload_n 0, 1) := by decide +kernel
theorem md_M_init_96 : decode mc_M_init 96 = .ok (.bipush 101, 2) := by decide +kernel
theorem md_M_init_98 : decode mc_M_init 98 = .ok (.newarray .int, 2) := by decide +kernel
theorem md_M_init_100 : decode mc_M_init 100 = .ok (.putfield 45, 3) := by decide +kernel
theorem md_M_init_103 : decode mc_M_init 103 = .ok (.aload_n 0, 1) := by decide +kernel
theorem md_M_init_104 : decode mc_M_init 104 = .ok (.bipush 101, 2) := by decide +kernel
theorem md_M_init_106 : decode mc_M_init 106 = .ok (.newarray .long, 2) := by decide +kernel
theorem md_M_init_108 : decode mc_M_init 108 = .ok (.putfield 48, 3) := by decide +kernel
theorem md_M_init_111 : decode mc_M_init 111 = .ok (.aload_n 0, 1) := by decide +kernel
theorem md_M_init_112 : decode mc_M_init 112 = .ok (.bipush 101, 2) := by decide +kernel
theorem md_M_init_114 : decode mc_M_init 114 = .ok (.newarray .boolean, 2) := by decide +kernel
theorem md_M_init_116 : decode mc_M_init 116 = .ok (.putfield 51, 3) := by decide +kernel
theorem md_M_init_119 : decode mc_M_init 119 = .ok (.aload_n 0, 1) := by decide +kernel
theorem md_M_init_120 : decode mc_M_init 120 = .ok (.bipush 101, 2) := by decide +kernel
theorem md_M_init_122 : decode mc_M_init 122 = .ok (.newarray .int, 2) := by decide +kernel
theorem md_M_init_124 : decode mc_M_init 124 = .ok (.putfield 54, 3) := by decide +kernel
theorem md_M_init_127 : decode mc_M_init 127 = .ok (.aload_n 0, 1) := by decide +kernel
theorem md_M_init_128 : decode mc_M_init 128 = .ok (.bipush 101, 2) := by decide +kernel
theorem md_M_init_130 : decode mc_M_init 130 = .ok (.newarray .int, 2) := by decide +kernel
theorem md_M_init_132 : decode mc_M_init 132 = .ok (.putfield 57, 3) := by decide +kernel
theorem md_M_init_135 : decode mc_M_init 135 = .ok (.aload_n 0, 1) := by decide +kernel
theorem md_M_init_136 : decode mc_M_init 136 = .ok (.bipush 101, 2) := by decide +kernel
theorem md_M_init_138 : decode mc_M_init 138 = .ok (.newarray .boolean, 2) := by decide +kernel
theorem md_M_init_140 : decode mc_M_init 140 = .ok (.putfield 60, 3) := by decide +kernel
theorem md_M_init_143 : decode mc_M_init 143 = .ok (.aload_n 0, 1) := by decide +kernel
theorem md_M_init_144 : decode mc_M_init 144 = .ok (.bipush 101, 2) := by decide +kernel
theorem md_M_init_146 : decode mc_M_init 146 = .ok (.newarray .long, 2) := by decide +kernel
theorem md_M_init_148 : decode mc_M_init 148 = .ok (.putfield 63, 3) := by decide +kernel
theorem md_M_init_151 : decode mc_M_init 151 = .ok (.aload_n 0, 1) := by decide +kernel
theorem md_M_init_152 : decode mc_M_init 152 = .ok (.bipush 33, 2) := by decide +kernel
theorem md_M_init_154 : decode mc_M_init 154 = .ok (.newarray .int, 2) := by decide +kernel
theorem md_M_init_156 : decode mc_M_init 156 = .ok (.putfield 66, 3) := by decide +kernel
theorem md_M_init_159 : decode mc_M_init 159 = .ok (.aload_n 0, 1) := by decide +kernel
theorem md_M_init_160 : decode mc_M_init 160 = .ok (.bipush 33, 2) := by decide +kernel
theorem md_M_init_162 : decode mc_M_init 162 = .ok (.newarray .long, 2) := by decide +kernel
theorem md_M_init_164 : decode mc_M_init 164 = .ok (.putfield 69, 3) := by decide +kernel
theorem md_M_init_167 : decode mc_M_init 167 = .ok (.aload_n 0, 1) := by decide +kernel
theorem md_M_init_168 : decode mc_M_init 168 = .ok (.bipush 33, 2) := by decide +kernel
theorem md_M_init_170 : decode mc_M_init 170 = .ok (.newarray .int, 2) := by decide +kernel
theorem md_M_init_172 : decode mc_M_init 172 = .ok (.putfield 72, 3) := by decide +kernel
theorem md_M_init_175 : decode mc_M_init 175 = .ok (.aload_n 0, 1) := by decide +kernel
theorem md_M_init_176 : decode mc_M_init 176 = .ok (.bipush 17, 2) := by decide +kernel
theorem md_M_init_178 : decode mc_M_init 178 = .ok (.newarray .int, 2) := by decide +kernel
theorem md_M_init_180 : decode mc_M_init 180 = .ok (.putfield 75, 3) := by decide +kernel
theorem md_M_init_183 : decode mc_M_init 183 = .ok (.aload_n 0, 1) := by decide +kernel
theorem md_M_init_184 : decode mc_M_init 184 = .ok (.bipush 101, 2) := by decide +kernel
theorem md_M_init_186 : decode mc_M_init 186 = .ok (.newarray .int, 2) := by decide +kernel
theorem md_M_init_188 : decode mc_M_init 188 = .ok (.putfield 78, 3) := by decide +kernel
theorem md_M_init_191 : decode mc_M_init 191 = .ok (.aload_n 0, 1) := by decide +kernel
theorem md_M_init_192 : decode mc_M_init 192 = .ok (.bipush 101, 2) := by decide +kernel
theorem md_M_init_194 : decode mc_M_init 194 = .ok (.newarray .long, 2) := by decide +kernel
theorem md_M_init_196 : decode mc_M_init 196 = .ok (.putfield 81, 3) := by decide +kernel
theorem md_M_init_199 : decode mc_M_init 199 = .ok (.aload_n 0, 1) := by decide +kernel
theorem md_M_init_200 : decode mc_M_init 200 = .ok (.sipush 500, 3) := by decide +kernel
theorem md_M_init_203 : decode mc_M_init 203 = .ok (.newarray .int, 2) := by decide +kernel
theorem md_M_init_205 : decode mc_M_init 205 = .ok (.putfield 84, 3) := by decide +kernel
theorem md_M_init_208 : decode mc_M_init 208 = .ok (.aload_n 0, 1) := by decide +kernel
theorem md_M_init_209 : decode mc_M_init 209 = .ok (.sipush 500, 3) := by decide +kernel
theorem md_M_init_212 : decode mc_M_init 212 = .ok (.newarray .long, 2) := by decide +kernel
theorem md_M_init_214 : decode mc_M_init 214 = .ok (.putfield 87, 3) := by decide +kernel
theorem md_M_init_217 : decode mc_M_init 217 = .ok (.aload_n 0, 1) := by decide +kernel
theorem md_M_init_218 : decode mc_M_init 218 = .ok (.sipush 500, 3) := by decide +kernel
theorem md_M_init_221 : decode mc_M_init 221 = .ok (.newarray .int, 2) := by decide +kernel
theorem md_M_init_223 : decode mc_M_init 223 = .ok (.putfield 90, 3) := by decide +kernel
theorem md_M_init_226 : decode mc_M_init 226 = .ok (.aload_n 0, 1) := by decide +kernel
theorem md_M_init_227 : decode mc_M_init 227 = .ok (.sipush 500, 3) := by decide +kernel
theorem md_M_init_230 : decode mc_M_init 230 = .ok (.newarray .long, 2) := by decide +kernel
theorem md_M_init_232 : decode mc_M_init 232 = .ok (.putfield 93, 3) := by decide +kernel
theorem md_M_init_235 : decode mc_M_init 235 = .ok (.aload_n 0, 1) := by decide +kernel
theorem md_M_init_236 : decode mc_M_init 236 = .ok (.sipush 500, 3) := by decide +kernel
theorem md_M_init_239 : decode mc_M_init 239 = .ok (.newarray .long, 2) := by decide +kernel
theorem md_M_init_241 : decode mc_M_init 241 = .ok (.putfield 96, 3) := by decide +kernel
theorem md_M_init_244 : decode mc_M_init 244 = .ok (.aload_n 0, 1) := by decide +kernel
theorem md_M_init_245 : decode mc_M_init 245 = .ok (.sipush 1000, 3) := by decide +kernel
theorem md_M_init_248 : decode mc_M_init 248 = .ok (.newarray .int, 2) := by decide +kernel
theorem md_M_init_250 : decode mc_M_init 250 = .ok (.putfield 99, 3) := by decide +kernel
theorem md_M_init_253 : decode mc_M_init 253 = .ok (.aload_n 0, 1) := by decide +kernel
theorem md_M_init_254 : decode mc_M_init 254 = .ok (.sipush 1000, 3) := by decide +kernel
theorem md_M_init_257 : decode mc_M_init 257 = .ok (.newarray .int, 2) := by decide +kernel
theorem md_M_init_259 : decode mc_M_init 259 = .ok (.putfield 102, 3) := by decide +kernel
theorem md_M_init_262 : decode mc_M_init 262 = .ok (.aload_n 0, 1) := by decide +kernel
theorem md_M_init_263 : decode mc_M_init 263 = .ok (.sipush 1000, 3) := by decide +kernel
theorem md_M_init_266 : decode mc_M_init 266 = .ok (.newarray .long, 2) := by decide +kernel
theorem md_M_init_268 : decode mc_M_init 268 = .ok (.putfield 105, 3) := by decide +kernel
theorem md_M_init_271 : decode mc_M_init 271 = .ok (.aload_n 0, 1) := by decide +kernel
theorem md_M_init_272 : decode mc_M_init 272 = .ok (.ldc 108, 2) := by decide +kernel
theorem md_M_init_274 : decode mc_M_init 274 = .ok (.newarray .short, 2) := by decide +kernel
theorem md_M_init_276 : decode mc_M_init 276 = .ok (.putfield 109, 3) := by decide +kernel
theorem md_M_init_279 : decode mc_M_init 279 = .ok (.aload_n 0, 1) := by decide +kernel
theorem md_M_init_280 : decode mc_M_init 280 = .ok (.iload_n 1, 1) := by decide +kernel
theorem md_M_init_281 : decode mc_M_init 281 = .ok (.iconst 1, 1) := by decide +kernel
theorem md_M_init_282 : decode mc_M_init 282 = .ok (.if_icmp .lt 9, 3) := by decide +kernel
theorem md_M_init_285 : decode mc_M_init 285 = .ok (.iload_n 1, 1) := by decide +kernel
theorem md_M_init_286 : decode mc_M_init 286 = .ok (.bipush 8, 2) := by decide +kernel
theorem md_M_init_288 : decode mc_M_init 288 = .ok (.if_icmp .le 7, 3) := by decide +kernel
theorem md_M_init_291 : decode mc_M_init 291 = .ok (.iconst 1, 1) := by decide +kernel
theorem md_M_init_292 : decode mc_M_init 292 = .ok (.goto 4, 3) := by decide +kernel
theorem md_M_init_295 : decode mc_M_init 295 = .ok (.iload_n 1, 1) := by decide +kernel
theorem md_M_init_296 : decode mc_M_init 296 = .ok (.putfield 113, 3) := by decide +kernel
theorem md_M_init_299 : decode mc_M_init 299 = .ok (.return_, 1) := by decide +kernel
theorem md_M_no_0 : decode mc_M_no 0 = .ok (.iload_n 1, 1) := by decide +kernel
theorem md_M_no_1 : decode mc_M_no 1 = .ok (.iconst 1, 1) := by decide +kernel
theorem md_M_no_2 : decode mc_M_no 2 = .ok (.if_icmp .lt 11, 3) := by decide +kernel
theorem md_M_no_5 : decode mc_M_no 5 = .ok (.iload_n 1, 1) := by decide +kernel
theorem md_M_no_6 : decode mc_M_no 6 = .ok (.aload_n 0, 1) := by decide +kernel
theorem md_M_no_7 : decode mc_M_no 7 = .ok (.getfield 117, 3) := by decide +kernel
theorem md_M_no_10 : decode mc_M_no 10 = .ok (.if_icmp .le 7, 3) := by decide +kernel
theorem md_M_no_13 : decode mc_M_no 13 = .ok (.iconst 1, 1) := by decide +kernel
theorem md_M_no_14 : decode mc_M_no 14 = .ok (.goto 4, 3) := by decide +kernel
theorem md_M_no_17 : decode mc_M_no 17 = .ok (.iconst 0, 1) := by decide +kernel
theorem md_M_no_18 : decode mc_M_no 18 = .ok (.ireturn, 1) := by decide +kernel
theorem md_M_task_0 : decode mc_M_task 0 = .ok (.iload_n 2, 1) := by decide +kernel
theorem md_M_task_1 : decode mc_M_task 1 = .ok (.ifCond .lt 11, 3) := by decide +kernel
theorem md_M_task_4 : decode mc_M_task 4 = .ok (.iload_n 2, 1) := by decide +kernel
theorem md_M_task_5 : decode mc_M_task 5 = .ok (.aload_n 0, 1) := by decide +kernel
theorem md_M_task_6 : decode mc_M_task 6 = .ok (.getfield 113, 3) := by decide +kernel
theorem md_M_task_9 : decode mc_M_task 9 = .ok (.if_icmp .lt 5, 3) := by decide +kernel
theorem md_M_task_12 : decode mc_M_task 12 = .ok (.iconst (-1), 1) := by decide +kernel
theorem md_M_task_13 : decode mc_M_task 13 = .ok (.ireturn, 1) := by decide +kernel
theorem md_M_task_14 : decode mc_M_task 14 = .ok (.iload_n 1, 1) := by decide +kernel
theorem md_M_task_15 : decode mc_M_task 15 = .ok (.ifCond .lt 31, 3) := by decide +kernel
theorem md_M_task_18 : decode mc_M_task 18 = .ok (.iload_n 1, 1) := by decide +kernel
theorem md_M_task_19 : decode mc_M_task 19 = .ok (.sipush 255, 3) := by decide +kernel
theorem md_M_task_22 : decode mc_M_task 22 = .ok (.if_icmp .gt 24, 3) := by decide +kernel
theorem md_M_task_25 : decode mc_M_task 25 = .ok (.iload_n 3, 1) := by decide +kernel
theorem md_M_task_26 : decode mc_M_task 26 = .ok (.iconst 1, 1) := by decide +kernel
theorem md_M_task_27 : decode mc_M_task 27 = .ok (.if_icmp .lt 19, 3) := by decide +kernel
theorem md_M_task_30 : decode mc_M_task 30 = .ok (.iload_n 3, 1) := by decide +kernel
theorem md_M_task_31 : decode mc_M_task 31 = .ok (.bipush 100, 2) := by decide +kernel
theorem md_M_task_33 : decode mc_M_task 33 = .ok (.if_icmp .gt 13, 3) := by decide +kernel
theorem md_M_task_36 : decode mc_M_task 36 = .ok (.iload 4, 2) := by decide +kernel
theorem md_M_task_38 : decode mc_M_task 38 = .ok (.ifCond .eq 11, 3) := by decide +kernel
theorem md_M_task_41 : decode mc_M_task 41 = .ok (.iload_n 3, 1) := by decide +kernel
theorem md_M_task_42 : decode mc_M_task 42 = .ok (.iconst 1, 1) := by decide +kernel
theorem md_M_task_43 : decode mc_M_task 43 = .ok (.if_icmp .le 6, 3) := by decide +kernel
theorem md_M_task_46 : decode mc_M_task 46 = .ok (.bipush (-2), 2) := by decide +kernel
theorem md_M_task_48 : decode mc_M_task 48 = .ok (.ireturn, 1) := by decide +kernel
theorem md_M_task_49 : decode mc_M_task 49 = .ok (.aload_n 0, 1) := by decide +kernel
theorem md_M_task_50 : decode mc_M_task 50 = .ok (.getfield 120, 3) := by decide +kernel
theorem md_M_task_53 : decode mc_M_task 53 = .ok (.lconst 0, 1) := by decide +kernel
theorem md_M_task_54 : decode mc_M_task 54 = .ok (.lcmp, 1) := by decide +kernel
theorem md_M_task_55 : decode mc_M_task 55 = .ok (.ifCond .le 6, 3) := by decide +kernel
theorem md_M_task_58 : decode mc_M_task 58 = .ok (.bipush (-3), 2) := by decide +kernel
theorem md_M_task_60 : decode mc_M_task 60 = .ok (.ireturn, 1) := by decide +kernel
theorem md_M_task_61 : decode mc_M_task 61 = .ok (.aload_n 0, 1) := by decide +kernel
theorem md_M_task_62 : decode mc_M_task 62 = .ok (.getfield 117, 3) := by decide +kernel
theorem md_M_task_65 : decode mc_M_task 65 = .ok (.bipush 100, 2) := by decide +kernel
theorem md_M_task_67 : decode mc_M_task 67 = .ok (.if_icmp .ne 6, 3) := by decide +kernel
theorem md_M_task_70 : decode mc_M_task 70 = .ok (.bipush (-4), 2) := by decide +kernel
theorem md_M_task_72 : decode mc_M_task 72 = .ok (.ireturn, 1) := by decide +kernel
theorem md_M_task_73 : decode mc_M_task 73 = .ok (.aload_n 0, 1) := by decide +kernel
theorem md_M_task_74 : decode mc_M_task 74 = .ok (.dup, 1) := by decide +kernel
theorem md_M_task_75 : decode mc_M_task 75 = .ok (.getfield 117, 3) := by decide +kernel
theorem md_M_task_78 : decode mc_M_task 78 = .ok (.iconst 1, 1) := by decide +kernel
theorem md_M_task_79 : decode mc_M_task 79 = .ok (.iadd, 1) := by decide +kernel
theorem md_M_task_80 : decode mc_M_task 80 = .ok (.putfield 117, 3) := by decide +kernel
theorem md_M_task_83 : decode mc_M_task 83 = .ok (.aload_n 0, 1) := by decide +kernel
theorem md_M_task_84 : decode mc_M_task 84 = .ok (.getfield 7, 3) := by decide +kernel
theorem md_M_task_87 : decode mc_M_task 87 = .ok (.aload_n 0, 1) := by decide +kernel
theorem md_M_task_88 : decode mc_M_task 88 = .ok (.getfield 117, 3) := by decide +kernel
theorem md_M_task_91 : decode mc_M_task 91 = .ok (.iload_n 1, 1) := by decide +kernel
theorem md_M_task_92 : decode mc_M_task 92 = .ok (.iastore, 1) := by decide +kernel
theorem md_M_task_93 : decode mc_M_task 93 = .ok (.aload_n 0, 1) := by decide +kernel
theorem md_M_task_94 : decode mc_M_task 94 = .ok (.getfield 13, 3) := by decide +kernel
theorem md_M_task_97 : decode mc_M_task 97 = .ok (.aload_n 0, 1) := by decide +kernel
theorem md_M_task_98 : decode mc_M_task 98 = .ok (.getfield 117, 3) := by decide +kernel
theorem md_M_task_101 : decode mc_M_task 101 = .ok (.iload_n 2, 1) := by decide +kernel
theorem md_M_task_102 : decode mc_M_task 102 = .ok (.iastore, 1) := by decide +kernel
theorem md_M_task_103 : decode mc_M_task 103 = .ok (.aload_n 0, 1) := by decide +kernel
theorem md_M_task_104 : decode mc_M_task 104 = .ok (.getfield 16, 3) := by decide +kernel
theorem md_M_task_107 : decode mc_M_task 107 = .ok (.aload_n 0, 1) := by decide +kernel
theorem md_M_task_108 : decode mc_M_task 108 = .ok (.getfield 117, 3) := by decide +kernel
theorem md_M_task_111 : decode mc_M_task 111 = .ok (.iload_n 3, 1) := by decide +kernel
theorem md_M_task_112 : decode mc_M_task 112 = .ok (.iastore, 1) := by decide +kernel
theorem md_M_task_113 : decode mc_M_task 113 = .ok (.aload_n 0, 1) := by decide +kernel
theorem md_M_task_114 : decode mc_M_task 114 = .ok (.getfield 19, 3) := by decide +kernel
theorem md_M_task_117 : decode mc_M_task 117 = .ok (.aload_n 0, 1) := by decide +kernel
theorem md_M_task_118 : decode mc_M_task 118 = .ok (.getfield 117, 3) := by decide +kernel
theorem md_M_task_121 : decode mc_M_task 121 = .ok (.iload 4, 2) := by decide +kernel
theorem md_M_task_123 : decode mc_M_task 123 = .ok (.bastore, 1) := by decide +kernel
theorem md_M_task_124 : decode mc_M_task 124 = .ok (.aload_n 0, 1) := by decide +kernel
theorem md_M_task_125 : decode mc_M_task 125 = .ok (.getfield 23, 3) := by decide +kernel
theorem md_M_task_128 : decode mc_M_task 128 = .ok (.aload_n 0, 1) := by decide +kernel
theorem md_M_task_129 : decode mc_M_task 129 = .ok (.getfield 117, 3) := by decide +kernel
theorem md_M_task_132 : decode mc_M_task 132 = .ok (.iconst 1, 1) := by decide +kernel
theorem md_M_task_133 : decode mc_M_task 133 = .ok (.bastore, 1) := by decide +kernel
theorem md_M_task_134 : decode mc_M_task 134 = .ok (.aload_n 0, 1) := by decide +kernel
theorem md_M_task_135 : decode mc_M_task 135 = .ok (.getfield 117, 3) := by decide +kernel
theorem md_M_task_138 : decode mc_M_task 138 = .ok (.ireturn, 1) := by decide +kernel
theorem md_M_good_0 : decode mc_M_good 0 = .ok (.iload_n 0, 1) := by decide +kernel
theorem md_M_good_1 : decode mc_M_good 1 = .ok (.ifCond .eq 9, 3) := by decide +kernel
theorem md_M_good_4 : decode mc_M_good 4 = .ok (.iload_n 0, 1) := by decide +kernel
theorem md_M_good_5 : decode mc_M_good 5 = .ok (.bipush 12, 2) := by decide +kernel
theorem md_M_good_7 : decode mc_M_good 7 = .ok (.if_icmp .ne 23, 3) := by decide +kernel
theorem md_M_good_10 : decode mc_M_good 10 = .ok (.lload_n 1, 1) := by decide +kernel
theorem md_M_good_11 : decode mc_M_good 11 = .ok (.lconst 1, 1) := by decide +kernel
theorem md_M_good_12 : decode mc_M_good 12 = .ok (.lcmp, 1) := by decide +kernel
theorem md_M_good_13 : decode mc_M_good 13 = .ok (.ifCond .lt 15, 3) := by decide +kernel
theorem md_M_good_16 : decode mc_M_good 16 = .ok (.lload_n 1, 1) := by decide +kernel
theorem md_M_good_17 : decode mc_M_good 17 = .ok (.ldc2_w 124, 3) := by decide +kernel
theorem md_M_good_20 : decode mc_M_good 20 = .ok (.lcmp, 1) := by decide +kernel
theorem md_M_good_21 : decode mc_M_good 21 = .ok (.ifCond .gt 7, 3) := by decide +kernel
theorem md_M_good_24 : decode mc_M_good 24 = .ok (.iconst 1, 1) := by decide +kernel
theorem md_M_good_25 : decode mc_M_good 25 = .ok (.goto 4, 3) := by decide +kernel
theorem md_M_good_28 : decode mc_M_good 28 = .ok (.iconst 0, 1) := by decide +kernel
theorem md_M_good_29 : decode mc_M_good 29 = .ok (.ireturn, 1) := by decide +kernel
theorem md_M_good_30 : decode mc_M_good 30 = .ok (.iload_n 0, 1) := by decide +kernel
theorem md_M_good_31 : decode mc_M_good 31 = .ok (.iconst 1, 1) := by decide +kernel
theorem md_M_good_32 : decode mc_M_good 32 = .ok (.if_icmp .eq 8, 3) := by decide +kernel
theorem md_M_good_35 : decode mc_M_good 35 = .ok (.iload_n 0, 1) := by decide +kernel
theorem md_M_good_36 : decode mc_M_good 36 = .ok (.iconst 2, 1) := by decide +kernel
theorem md_M_good_37 : decode mc_M_good 37 = .ok (.if_icmp .ne 23, 3) := by decide +kernel
theorem md_M_good_40 : decode mc_M_good 40 = .ok (.lload_n 1, 1) := by decide +kernel
theorem md_M_good_41 : decode mc_M_good 41 = .ok (.lconst 1, 1) := by decide +kernel
theorem md_M_good_42 : decode mc_M_good 42 = .ok (.lcmp, 1) := by decide +kernel
theorem md_M_good_43 : decode mc_M_good 43 = .ok (.ifCond .lt 15, 3) := by decide +kernel
theorem md_M_good_46 : decode mc_M_good 46 = .ok (.lload_n 1, 1) := by decide +kernel
theorem md_M_good_47 : decode mc_M_good 47 = .ok (.ldc2_w 126, 3) := by decide +kernel
theorem md_M_good_50 : decode mc_M_good 50 = .ok (.lcmp, 1) := by decide +kernel
theorem md_M_good_51 : decode mc_M_good 51 = .ok (.ifCond .gt 7, 3) := by decide +kernel
theorem md_M_good_54 : decode mc_M_good 54 = .ok (.iconst 1, 1) := by decide +kernel
theorem md_M_good_55 : decode mc_M_good 55 = .ok (.goto 4, 3) := by decide +kernel
theorem md_M_good_58 : decode mc_M_good 58 = .ok (.iconst 0, 1) := by decide +kernel
theorem md_M_good_59 : decode mc_M_good 59 = .ok (.ireturn, 1) := by decide +kernel
theorem md_M_good_60 : decode mc_M_good 60 = .ok (.iload_n 0, 1) := by decide +kernel
theorem md_M_good_61 : decode mc_M_good 61 = .ok (.iconst 3, 1) := by decide +kernel
theorem md_M_good_62 : decode mc_M_good 62 = .ok (.if_icmp .eq 8, 3) := by decide +kernel
theorem md_M_good_65 : decode mc_M_good 65 = .ok (.iload_n 0, 1) := by decide +kernel
theorem md_M_good_66 : decode mc_M_good 66 = .ok (.iconst 5, 1) := by decide +kernel
theorem md_M_good_67 : decode mc_M_good 67 = .ok (.if_icmp .ne 23, 3) := by decide +kernel
theorem md_M_good_70 : decode mc_M_good 70 = .ok (.lload_n 1, 1) := by decide +kernel
theorem md_M_good_71 : decode mc_M_good 71 = .ok (.lconst 1, 1) := by decide +kernel
theorem md_M_good_72 : decode mc_M_good 72 = .ok (.lcmp, 1) := by decide +kernel
theorem md_M_good_73 : decode mc_M_good 73 = .ok (.ifCond .lt 15, 3) := by decide +kernel
theorem md_M_good_76 : decode mc_M_good 76 = .ok (.lload_n 1, 1) := by decide +kernel
theorem md_M_good_77 : decode mc_M_good 77 = .ok (.ldc2_w 128, 3) := by decide +kernel
theorem md_M_good_80 : decode mc_M_good 80 = .ok (.lcmp, 1) := by decide +kernel
theorem md_M_good_81 : decode mc_M_good 81 = .ok (.ifCond .gt 7, 3) := by decide +kernel
theorem md_M_good_84 : decode mc_M_good 84 = .ok (.iconst 1, 1) := by decide +kernel
theorem md_M_good_85 : decode mc_M_good 85 = .ok (.goto 4, 3) := by decide +kernel
theorem md_M_good_88 : decode mc_M_good 88 = .ok (.iconst 0, 1) := by decide +kernel
theorem md_M_good_89 : decode mc_M_good 89 = .ok (.ireturn, 1) := by decide +kernel
theorem md_M_good_90 : decode mc_M_good 90 = .ok (.iload_n 0, 1) := by decide +kernel
theorem md_M_good_91 : decode mc_M_good 91 = .ok (.iconst 4, 1) := by decide +kernel
theorem md_M_good_92 : decode mc_M_good 92 = .ok (.if_icmp .ne 35, 3) := by decide +kernel
theorem md_M_good_95 : decode mc_M_good 95 = .ok (.lload_n 1, 1) := by decide +kernel
theorem md_M_good_96 : decode mc_M_good 96 = .ok (.ldc2_w 130, 3) := by decide +kernel
theorem md_M_good_99 : decode mc_M_good 99 = .ok (.lcmp, 1) := by decide +kernel
theorem md_M_good_100 : decode mc_M_good 100 = .ok (.ifCond .lt 25, 3) := by decide +kernel
theorem md_M_good_103 : decode mc_M_good 103 = .ok (.lload_n 1, 1) := by decide +kernel
theorem md_M_good_104 : decode mc_M_good 104 = .ok (.ldc2_w 132, 3) := by decide +kernel
theorem md_M_good_107 : decode mc_M_good 107 = .ok (.lcmp, 1) := by decide +kernel
theorem md_M_good_108 : decode mc_M_good 108 = .ok (.ifCond .gt 17, 3) := by decide +kernel
theorem md_M_good_111 : decode mc_M_good 111 = .ok (.lload_n 1, 1) := by decide +kernel
theorem md_M_good_112 : decode mc_M_good 112 = .ok (.ldc2_w 134, 3) := by decide +kernel
theorem md_M_good_115 : decode mc_M_good 115 = .ok (.lrem, 1) := by decide +kernel
theorem md_M_good_116 : decode mc_M_good 116 = .ok (.lconst 0, 1) := by decide +kernel
theorem md_M_good_117 : decode mc_M_good 117 = .ok (.lcmp, 1) := by decide +kernel
theorem md_M_good_118 : decode mc_M_good 118 = .ok (.ifCond .le 7, 3) := by decide +kernel
theorem md_M_good_121 : decode mc_M_good 121 = .ok (.iconst 1, 1) := by decide +kernel
theorem md_M_good_122 : decode mc_M_good 122 = .ok (.goto 4, 3) := by decide +kernel
theorem md_M_good_125 : decode mc_M_good 125 = .ok (.iconst 0, 1) := by decide +kernel
theorem md_M_good_126 : decode mc_M_good 126 = .ok (.ireturn, 1) := by decide +kernel
theorem md_M_good_127 : decode mc_M_good 127 = .ok (.iload_n 0, 1) := by decide +kernel
theorem md_M_good_128 : decode mc_M_good 128 = .ok (.bipush 6, 2) := by decide +kernel
theorem md_M_good_130 : decode mc_M_good 130 = .ok (.if_icmp .eq 9, 3) := by decide +kernel
theorem md_M_good_133 : decode mc_M_good 133 = .ok (.iload_n 0, 1) := by decide +kernel
theorem md_M_good_134 : decode mc_M_good 134 = .ok (.bipush 7, 2) := by decide +kernel
theorem md_M_good_136 : decode mc_M_good 136 = .ok (.if_icmp .ne 23, 3) := by decide +kernel
theorem md_M_good_139 : decode mc_M_good 139 = .ok (.lload_n 1, 1) := by decide +kernel
theorem md_M_good_140 : decode mc_M_good 140 = .ok (.lconst 1, 1) := by decide +kernel
theorem md_M_good_141 : decode mc_M_good 141 = .ok (.lcmp, 1) := by decide +kernel
theorem md_M_good_142 : decode mc_M_good 142 = .ok (.ifCond .lt 15, 3) := by decide +kernel
theorem md_M_good_145 : decode mc_M_good 145 = .ok (.lload_n 1, 1) := by decide +kernel
theorem md_M_good_146 : decode mc_M_good 146 = .ok (.ldc2_w 136, 3) := by decide +kernel
theorem md_M_good_149 : decode mc_M_good 149 = .ok (.lcmp, 1) := by decide +kernel
theorem md_M_good_150 : decode mc_M_good 150 = .ok (.ifCond .gt 7, 3) := by decide +kernel
theorem md_M_good_153 : decode mc_M_good 153 = .ok (.iconst 1, 1) := by decide +kernel
theorem md_M_good_154 : decode mc_M_good 154 = .ok (.goto 4, 3) := by decide +kernel
theorem md_M_good_157 : decode mc_M_good 157 = .ok (.iconst 0, 1) := by decide +kernel
theorem md_M_good_158 : decode mc_M_good 158 = .ok (.ireturn, 1) := by decide +kernel
theorem md_M_good_159 : decode mc_M_good 159 = .ok (.iload_n 0, 1) := by decide +kernel
theorem md_M_good_160 : decode mc_M_good 160 = .ok (.bipush 8, 2) := by decide +kernel
theorem md_M_good_162 : decode mc_M_good 162 = .ok (.if_icmp .eq 9, 3) := by decide +kernel
theorem md_M_good_165 : decode mc_M_good 165 = .ok (.iload_n 0, 1) := by decide +kernel
theorem md_M_good_166 : decode mc_M_good 166 = .ok (.bipush 9, 2) := by decide +kernel
theorem md_M_good_168 : decode mc_M_good 168 = .ok (.if_icmp .ne 23, 3) := by decide +kernel
theorem md_M_good_171 : decode mc_M_good 171 = .ok (.lload_n 1, 1) := by decide +kernel
theorem md_M_good_172 : decode mc_M_good 172 = .ok (.lconst 1, 1) := by decide +kernel
theorem md_M_good_173 : decode mc_M_good 173 = .ok (.lcmp, 1) := by decide +kernel
theorem md_M_good_174 : decode mc_M_good 174 = .ok (.ifCond .lt 15, 3) := by decide +kernel
theorem md_M_good_177 : decode mc_M_good 177 = .ok (.lload_n 1, 1) := by decide +kernel
theorem md_M_good_178 : decode mc_M_good 178 = .ok (.ldc2_w 138, 3) := by decide +kernel
theorem md_M_good_181 : decode mc_M_good 181 = .ok (.lcmp, 1) := by decide +kernel
theorem md_M_good_182 : decode mc_M_good 182 = .ok (.ifCond .gt 7, 3) := by decide +kernel
theorem md_M_good_185 : decode mc_M_good 185 = .ok (.iconst 1, 1) := by decide +kernel
theorem md_M_good_186 : decode mc_M_good 186 = .ok (.goto 4, 3) := by decide +kernel
theorem md_M_good_189 : decode mc_M_good 189 = .ok (.iconst 0, 1) := by decide +kernel
theorem md_M_good_190 : decode mc_M_good 190 = .ok (.ireturn, 1) := by decide +kernel
theorem md_M_good_191 : decode mc_M_good 191 = .ok (.lload_n 1, 1) := by decide +kernel
theorem md_M_good_192 : decode mc_M_good 192 = .ok (.lconst 0, 1) := by decide +kernel
theorem md_M_good_193 : decode mc_M_good 193 = .ok (.lcmp, 1) := by decide +kernel
theorem md_M_good_194 : decode mc_M_good 194 = .ok (.ifCond .ne 7, 3) := by decide +kernel
theorem md_M_good_197 : decode mc_M_good 197 = .ok (.iconst 1, 1) := by decide +kernel
theorem md_M_good_198 : decode mc_M_good 198 = .ok (.goto 4, 3) := by decide +kernel
theorem md_M_good_201 : decode mc_M_good 201 = .ok (.iconst 0, 1) := by decide +kernel
theorem md_M_good_202 : decode mc_M_good 202 = .ok (.ireturn, 1) := by decide +kernel
theorem md_M_part_0 : decode mc_M_part 0 = .ok (.aload_n 0, 1) := by decide +kernel
theorem md_M_part_1 : decode mc_M_part 1 = .ok (.iload_n 1, 1) := by decide +kernel
theorem md_M_part_2 : decode mc_M_part 2 = .ok (.invokevirtual 140, 3) := by decide +kernel
theorem md_M_part_5 : decode mc_M_part 5 = .ok (.ifCond .eq 5, 3) := by decide +kernel
theorem md_M_part_8 : decode mc_M_part 8 = .ok (.iconst (-1), 1) := by decide +kernel
theorem md_M_part_9 : decode mc_M_part 9 = .ok (.ireturn, 1) := by decide +kernel
theorem md_M_part_10 : decode mc_M_part 10 = .ok (.iload_n 2, 1) := by decide +kernel
theorem md_M_part_11 : decode mc_M_part 11 = .ok (.ifCond .lt 17, 3) := by decide +kernel
theorem md_M_part_14 : decode mc_M_part 14 = .ok (.iload_n 2, 1) := by decide +kernel
theorem md_M_part_15 : decode mc_M_part 15 = .ok (.bipush 13, 2) := by decide +kernel
theorem md_M_part_17 : decode mc_M_part 17 = .ok (.if_icmp .gt 11, 3) := by decide +kernel
theorem md_M_part_20 : decode mc_M_part 20 = .ok (.iload_n 2, 1) := by decide +kernel
theorem md_M_part_21 : decode mc_M_part 21 = .ok (.lload_n 3, 1) := by decide +kernel
theorem md_M_part_22 : decode mc_M_part 22 = .ok (.invokestatic 144, 3) := by decide +kernel
theorem md_M_part_25 : decode mc_M_part 25 = .ok (.ifCond .ne 6, 3) := by decide +kernel
theorem md_M_part_28 : decode mc_M_part 28 = .ok (.bipush (-2), 2) := by decide +kernel
theorem md_M_part_30 : decode mc_M_part 30 = .ok (.ireturn, 1) := by decide +kernel
theorem md_M_part_31 : decode mc_M_part 31 = .ok (.aload_n 0, 1) := by decide +kernel
theorem md_M_part_32 : decode mc_M_part 32 = .ok (.getfield 120, 3) := by decide +kernel
theorem md_M_part_35 : decode mc_M_part 35 = .ok (.lconst 0, 1) := by decide +kernel
theorem md_M_part_36 : decode mc_M_part 36 = .ok (.lcmp, 1) := by decide +kernel
theorem md_M_part_37 : decode mc_M_part 37 = .ok (.ifCond .le 6, 3) := by decide +kernel
theorem md_M_part_40 : decode mc_M_part 40 = .ok (.bipush (-3), 2) := by decide +kernel
theorem md_M_part_42 : decode mc_M_part 42 = .ok (.ireturn, 1) := by decide +kernel
theorem md_M_part_43 : decode mc_M_part 43 = .ok (.aload_n 0, 1) := by decide +kernel
theorem md_M_part_44 : decode mc_M_part 44 = .ok (.getfield 148, 3) := by decide +kernel
theorem md_M_part_47 : decode mc_M_part 47 = .ok (.sipush 500, 3) := by decide +kernel
theorem md_M_part_50 : decode mc_M_part 50 = .ok (.if_icmp .ne 6, 3) := by decide +kernel
theorem md_M_part_53 : decode mc_M_part 53 = .ok (.bipush (-4), 2) := by decide +kernel
theorem md_M_part_55 : decode mc_M_part 55 = .ok (.ireturn, 1) := by decide +kernel
theorem md_M_part_56 : decode mc_M_part 56 = .ok (.aload_n 0, 1) := by decide +kernel
theorem md_M_part_57 : decode mc_M_part 57 = .ok (.getfield 26, 3) := by decide +kernel
theorem md_M_part_60 : decode mc_M_part 60 = .ok (.aload_n 0, 1) := by decide +kernel
theorem md_M_part_61 : decode mc_M_part 61 = .ok (.getfield 148, 3) := by decide +kernel
theorem md_M_part_64 : decode mc_M_part 64 = .ok (.iload_n 1, 1) := by decide +kernel
theorem md_M_part_65 : decode mc_M_part 65 = .ok (.iastore, 1) := by decide +kernel
theorem md_M_part_66 : decode mc_M_part 66 = .ok (.aload_n 0, 1) := by decide +kernel
theorem md_M_part_67 : decode mc_M_part 67 = .ok (.getfield 29, 3) := by decide +kernel
theorem md_M_part_70 : decode mc_M_part 70 = .ok (.aload_n 0, 1) := by decide +kernel
theorem md_M_part_71 : decode mc_M_part 71 = .ok (.getfield 148, 3) := by decide +kernel
theorem md_M_part_74 : decode mc_M_part 74 = .ok (.iload_n 2, 1) := by decide +kernel
theorem md_M_part_75 : decode mc_M_part 75 = .ok (.iastore, 1) := by decide +kernel
theorem md_M_part_76 : decode mc_M_part 76 = .ok (.aload_n 0, 1) := by decide +kernel
theorem md_M_part_77 : decode mc_M_part 77 = .ok (.getfield 32, 3) := by decide +kernel
theorem md_M_part_80 : decode mc_M_part 80 = .ok (.aload_n 0, 1) := by decide +kernel
theorem md_M_part_81 : decode mc_M_part 81 = .ok (.getfield 148, 3) := by decide +kernel
theorem md_M_part_84 : decode mc_M_part 84 = .ok (.lload_n 3, 1) := by decide +kernel
theorem md_M_part_85 : decode mc_M_part 85 = .ok (.lastore, 1) := by decide +kernel
theorem md_M_part_86 : decode mc_M_part 86 = .ok (.aload_n 0, 1) := by decide +kernel
theorem md_M_part_87 : decode mc_M_part 87 = .ok (.dup, 1) := by decide +kernel
theorem md_M_part_88 : decode mc_M_part 88 = .ok (.getfield 148, 3) := by decide +kernel
theorem md_M_part_91 : decode mc_M_part 91 = .ok (.iconst 1, 1) := by decide +kernel
theorem md_M_part_92 : decode mc_M_part 92 = .ok (.iadd, 1) := by decide +kernel
theorem md_M_part_93 : decode mc_M_part 93 = .ok (.putfield 148, 3) := by decide +kernel
theorem md_M_part_96 : decode mc_M_part 96 = .ok (.iconst 0, 1) := by decide +kernel
theorem md_M_part_97 : decode mc_M_part 97 = .ok (.istore 5, 2) := by decide +kernel
theorem md_M_part_99 : decode mc_M_part 99 = .ok (.iconst 0, 1) := by decide +kernel
theorem md_M_part_100 : decode mc_M_part 100 = .ok (.istore 6, 2) := by decide +kernel
theorem md_M_part_102 : decode mc_M_part 102 = .ok (.iload 6, 2) := by decide +kernel
theorem md_M_part_104 : decode mc_M_part 104 = .ok (.aload_n 0, 1) := by decide +kernel
theorem md_M_part_105 : decode mc_M_part 105 = .ok (.getfield 148, 3) := by decide +kernel
theorem md_M_part_108 : decode mc_M_part 108 = .ok (.if_icmp .ge 31, 3) := by decide +kernel
theorem md_M_part_111 : decode mc_M_part 111 = .ok (.aload_n 0, 1) := by decide +kernel
theorem md_M_part_112 : decode mc_M_part 112 = .ok (.getfield 26, 3) := by decide +kernel
theorem md_M_part_115 : decode mc_M_part 115 = .ok (.iload 6, 2) := by decide +kernel
theorem md_M_part_117 : decode mc_M_part 117 = .ok (.iaload, 1) := by decide +kernel
theorem md_M_part_118 : decode mc_M_part 118 = .ok (.iload_n 1, 1) := by decide +kernel
theorem md_M_part_119 : decode mc_M_part 119 = .ok (.if_icmp .ne 10, 3) := by decide +kernel
theorem md_M_part_122 : decode mc_M_part 122 = .ok (.iload 5, 2) := by decide +kernel
theorem md_M_part_124 : decode mc_M_part 124 = .ok (.iconst 1, 1) := by decide +kernel
theorem md_M_part_125 : decode mc_M_part 125 = .ok (.iadd, 1) := by decide +kernel
theorem md_M_part_126 : decode mc_M_part 126 = .ok (.goto 5, 3) := by decide +kernel
theorem md_M_part_129 : decode mc_M_part 129 = .ok (.iload 5, 2) := by decide +kernel
theorem md_M_part_131 : decode mc_M_part 131 = .ok (.istore 5, 2) := by decide +kernel
theorem md_M_part_133 : decode mc_M_part 133 = .ok (.iinc 6 1, 3) := by decide +kernel
theorem md_M_part_136 : decode mc_M_part 136 = .ok (.goto (-34), 3) := by decide +kernel
theorem md_M_part_139 : decode mc_M_part 139 = .ok (.iload 5, 2) := by decide +kernel
theorem md_M_part_141 : decode mc_M_part 141 = .ok (.ireturn, 1) := by decide +kernel
theorem md_M_manner_0 : decode mc_M_manner 0 = .ok (.aload_n 0, 1) := by decide +kernel
theorem md_M_manner_1 : decode mc_M_manner 1 = .ok (.iload_n 1, 1) := by decide +kernel
theorem md_M_manner_2 : decode mc_M_manner 2 = .ok (.invokevirtual 140, 3) := by decide +kernel
theorem md_M_manner_5 : decode mc_M_manner 5 = .ok (.ifCond .eq 5, 3) := by decide +kernel
theorem md_M_manner_8 : decode mc_M_manner 8 = .ok (.iconst (-1), 1) := by decide +kernel
theorem md_M_manner_9 : decode mc_M_manner 9 = .ok (.ireturn, 1) := by decide +kernel
theorem md_M_manner_10 : decode mc_M_manner 10 = .ok (.aload_n 0, 1) := by decide +kernel
theorem md_M_manner_11 : decode mc_M_manner 11 = .ok (.getfield 120, 3) := by decide +kernel
theorem md_M_manner_14 : decode mc_M_manner 14 = .ok (.lconst 0, 1) := by decide +kernel
theorem md_M_manner_15 : decode mc_M_manner 15 = .ok (.lcmp, 1) := by decide +kernel
theorem md_M_manner_16 : decode mc_M_manner 16 = .ok (.ifCond .le 6, 3) := by decide +kernel
theorem md_M_manner_19 : decode mc_M_manner 19 = .ok (.bipush (-3), 2) := by decide +kernel
theorem md_M_manner_21 : decode mc_M_manner 21 = .ok (.ireturn, 1) := by decide +kernel
theorem md_M_manner_22 : decode mc_M_manner 22 = .ok (.aload_n 0, 1) := by decide +kernel
theorem md_M_manner_23 : decode mc_M_manner 23 = .ok (.getfield 23, 3) := by decide +kernel
theorem md_M_manner_26 : decode mc_M_manner 26 = .ok (.iload_n 1, 1) := by decide +kernel
theorem md_M_manner_27 : decode mc_M_manner 27 = .ok (.iload_n 2, 1) := by decide +kernel
theorem md_M_manner_28 : decode mc_M_manner 28 = .ok (.bastore, 1) := by decide +kernel
theorem md_M_manner_29 : decode mc_M_manner 29 = .ok (.iconst 1, 1) := by decide +kernel
theorem md_M_manner_30 : decode mc_M_manner 30 = .ok (.ireturn, 1) := by decide +kernel
theorem md_M_activate_0 : decode mc_M_activate 0 = .ok (.aload_n 0, 1) := by decide +kernel
theorem md_M_activate_1 : decode mc_M_activate 1 = .ok (.iload_n 1, 1) := by decide +kernel
theorem md_M_activate_2 : decode mc_M_activate 2 = .ok (.invokevirtual 140, 3) := by decide +kernel
theorem md_M_activate_5 : decode mc_M_activate 5 = .ok (.ifCond .eq 5, 3) := by decide +kernel
theorem md_M_activate_8 : decode mc_M_activate 8 = .ok (.iconst (-1), 1) := by decide +kernel
theorem md_M_activate_9 : decode mc_M_activate 9 = .ok (.ireturn, 1) := by decide +kernel
theorem md_M_activate_10 : decode mc_M_activate 10 = .ok (.lload_n 2, 1) := by decide +kernel
theorem md_M_activate_11 : decode mc_M_activate 11 = .ok (.aload_n 0, 1) := by decide +kernel
theorem md_M_activate_12 : decode mc_M_activate 12 = .ok (.getfield 120, 3) := by decide +kernel
theorem md_M_activate_15 : decode mc_M_activate 15 = .ok (.lcmp, 1) := by decide +kernel
theorem md_M_activate_16 : decode mc_M_activate 16 = .ok (.ifCond .lt 11, 3) := by decide +kernel
theorem md_M_activate_19 : decode mc_M_activate 19 = .ok (.lload_n 2, 1) := by decide +kernel
theorem md_M_activate_20 : decode mc_M_activate 20 = .ok (.ldc2_w 124, 3) := by decide +kernel
theorem md_M_activate_23 : decode mc_M_activate 23 = .ok (.lcmp, 1) := by decide +kernel
theorem md_M_activate_24 : decode mc_M_activate 24 = .ok (.ifCond .le 6, 3) := by decide +kernel
theorem md_M_activate_27 : decode mc_M_activate 27 = .ok (.bipush (-2), 2) := by decide +kernel
theorem md_M_activate_29 : decode mc_M_activate 29 = .ok (.ireturn, 1) := by decide +kernel
theorem md_M_activate_30 : decode mc_M_activate 30 = .ok (.aload_n 0, 1) := by decide +kernel
theorem md_M_activate_31 : decode mc_M_activate 31 = .ok (.getfield 151, 3) := by decide +kernel
theorem md_M_activate_34 : decode mc_M_activate 34 = .ok (.sipush 500, 3) := by decide +kernel
theorem md_M_activate_37 : decode mc_M_activate 37 = .ok (.if_icmp .ne 6, 3) := by decide +kernel
theorem md_M_activate_40 : decode mc_M_activate 40 = .ok (.bipush (-4), 2) := by decide +kernel
theorem md_M_activate_42 : decode mc_M_activate 42 = .ok (.ireturn, 1) := by decide +kernel
theorem md_M_activate_43 : decode mc_M_activate 43 = .ok (.aload_n 0, 1) := by decide +kernel
theorem md_M_activate_44 : decode mc_M_activate 44 = .ok (.getfield 84, 3) := by decide +kernel
theorem md_M_activate_47 : decode mc_M_activate 47 = .ok (.aload_n 0, 1) := by decide +kernel
theorem md_M_activate_48 : decode mc_M_activate 48 = .ok (.getfield 151, 3) := by decide +kernel
theorem md_M_activate_51 : decode mc_M_activate 51 = .ok (.iload_n 1, 1) := by decide +kernel
theorem md_M_activate_52 : decode mc_M_activate 52 = .ok (.iastore, 1) := by decide +kernel
theorem md_M_activate_53 : decode mc_M_activate 53 = .ok (.aload_n 0, 1) := by decide +kernel
theorem md_M_activate_54 : decode mc_M_activate 54 = .ok (.getfield 87, 3) := by decide +kernel
theorem md_M_activate_57 : decode mc_M_activate 57 = .ok (.aload_n 0, 1) := by decide +kernel
theorem md_M_activate_58 : decode mc_M_activate 58 = .ok (.getfield 151, 3) := by decide +kernel
theorem md_M_activate_61 : decode mc_M_activate 61 = .ok (.lload_n 2, 1) := by decide +kernel
theorem md_M_activate_62 : decode mc_M_activate 62 = .ok (.lastore, 1) := by decide +kernel
theorem md_M_activate_63 : decode mc_M_activate 63 = .ok (.aload_n 0, 1) := by decide +kernel
theorem md_M_activate_64 : decode mc_M_activate 64 = .ok (.dup, 1) := by decide +kernel
theorem md_M_activate_65 : decode mc_M_activate 65 = .ok (.getfield 151, 3) := by decide +kernel
theorem md_M_activate_68 : decode mc_M_activate 68 = .ok (.iconst 1, 1) := by decide +kernel
theorem md_M_activate_69 : decode mc_M_activate 69 = .ok (.iadd, 1) := by decide +kernel
theorem md_M_activate_70 : decode mc_M_activate 70 = .ok (.putfield 151, 3) := by decide +kernel
theorem md_M_activate_73 : decode mc_M_activate 73 = .ok (.iconst 1, 1) := by decide +kernel
theorem md_M_activate_74 : decode mc_M_activate 74 = .ok (.ireturn, 1) := by decide +kernel
theorem md_M_interrupt_0 : decode mc_M_interrupt 0 = .ok (.iload_n 1, 1) := by decide +kernel
theorem md_M_interrupt_1 : decode mc_M_interrupt 1 = .ok (.iconst 1, 1) := by decide +kernel
theorem md_M_interrupt_2 : decode mc_M_interrupt 2 = .ok (.if_icmp .lt 42, 3) := by decide +kernel
theorem md_M_interrupt_5 : decode mc_M_interrupt 5 = .ok (.iload_n 1, 1) := by decide +kernel
theorem md_M_interrupt_6 : decode mc_M_interrupt 6 = .ok (.bipush 15, 2) := by decide +kernel
theorem md_M_interrupt_8 : decode mc_M_interrupt 8 = .ok (.if_icmp .gt 36, 3) := by decide +kernel
theorem md_M_interrupt_11 : decode mc_M_interrupt 11 = .ok (.lload_n 2, 1) := by decide +kernel
theorem md_M_interrupt_12 : decode mc_M_interrupt 12 = .ok (.aload_n 0, 1) := by decide +kernel
theorem md_M_interrupt_13 : decode mc_M_interrupt 13 = .ok (.getfield 120, 3) := by decide +kernel
theorem md_M_interrupt_16 : decode mc_M_interrupt 16 = .ok (.lcmp, 1) := by decide +kernel
theorem md_M_interrupt_17 : decode mc_M_interrupt 17 = .ok (.ifCond .lt 27, 3) := by decide +kernel
theorem md_M_interrupt_20 : decode mc_M_interrupt 20 = .ok (.lload_n 2, 1) := by decide +kernel
theorem md_M_interrupt_21 : decode mc_M_interrupt 21 = .ok (.ldc2_w 124, 3) := by decide +kernel
theorem md_M_interrupt_24 : decode mc_M_interrupt 24 = .ok (.lcmp, 1) := by decide +kernel
theorem md_M_interrupt_25 : decode mc_M_interrupt 25 = .ok (.ifCond .gt 19, 3) := by decide +kernel
theorem md_M_interrupt_28 : decode mc_M_interrupt 28 = .ok (.lload 4, 2) := by decide +kernel
theorem md_M_interrupt_30 : decode mc_M_interrupt 30 = .ok (.lconst 1, 1) := by decide +kernel
theorem md_M_interrupt_31 : decode mc_M_interrupt 31 = .ok (.lcmp, 1) := by decide +kernel
theorem md_M_interrupt_32 : decode mc_M_interrupt 32 = .ok (.ifCond .lt 12, 3) := by decide +kernel
theorem md_M_interrupt_35 : decode mc_M_interrupt 35 = .ok (.lload 4, 2) := by decide +kernel
theorem md_M_interrupt_37 : decode mc_M_interrupt 37 = .ok (.ldc2_w 154, 3) := by decide +kernel
theorem md_M_interrupt_40 : decode mc_M_interrupt 40 = .ok (.lcmp, 1) := by decide +kernel
theorem md_M_interrupt_41 : decode mc_M_interrupt 41 = .ok (.ifCond .le 6, 3) := by decide +kernel
theorem md_M_interrupt_44 : decode mc_M_interrupt 44 = .ok (.bipush (-2), 2) := by decide +kernel
theorem md_M_interrupt_46 : decode mc_M_interrupt 46 = .ok (.ireturn, 1) := by decide +kernel
theorem md_M_interrupt_47 : decode mc_M_interrupt 47 = .ok (.aload_n 0, 1) := by decide +kernel
theorem md_M_interrupt_48 : decode mc_M_interrupt 48 = .ok (.getfield 156, 3) := by decide +kernel
theorem md_M_interrupt_51 : decode mc_M_interrupt 51 = .ok (.sipush 500, 3) := by decide +kernel
theorem md_M_interrupt_54 : decode mc_M_interrupt 54 = .ok (.if_icmp .ne 6, 3) := by decide +kernel
theorem md_M_interrupt_57 : decode mc_M_interrupt 57 = .ok (.bipush (-4), 2) := by decide +kernel
theorem md_M_interrupt_59 : decode mc_M_interrupt 59 = .ok (.ireturn, 1) := by decide +kernel
theorem md_M_interrupt_60 : decode mc_M_interrupt 60 = .ok (.aload_n 0, 1) := by decide +kernel
theorem md_M_interrupt_61 : decode mc_M_interrupt 61 = .ok (.getfield 90, 3) := by decide +kernel
theorem md_M_interrupt_64 : decode mc_M_interrupt 64 = .ok (.aload_n 0, 1) := by decide +kernel
theorem md_M_interrupt_65 : decode mc_M_interrupt 65 = .ok (.getfield 156, 3) := by decide +kernel
theorem md_M_interrupt_68 : decode mc_M_interrupt 68 = .ok (.iload_n 1, 1) := by decide +kernel
theorem md_M_interrupt_69 : decode mc_M_interrupt 69 = .ok (.iastore, 1) := by decide +kernel
theorem md_M_interrupt_70 : decode mc_M_interrupt 70 = .ok (.aload_n 0, 1) := by decide +kernel
theorem md_M_interrupt_71 : decode mc_M_interrupt 71 = .ok (.getfield 93, 3) := by decide +kernel
theorem md_M_interrupt_74 : decode mc_M_interrupt 74 = .ok (.aload_n 0, 1) := by decide +kernel
theorem md_M_interrupt_75 : decode mc_M_interrupt 75 = .ok (.getfield 156, 3) := by decide +kernel
theorem md_M_interrupt_78 : decode mc_M_interrupt 78 = .ok (.lload_n 2, 1) := by decide +kernel
theorem md_M_interrupt_79 : decode mc_M_interrupt 79 = .ok (.lastore, 1) := by decide +kernel
theorem md_M_interrupt_80 : decode mc_M_interrupt 80 = .ok (.aload_n 0, 1) := by decide +kernel
theorem md_M_interrupt_81 : decode mc_M_interrupt 81 = .ok (.getfield 96, 3) := by decide +kernel
theorem md_M_interrupt_84 : decode mc_M_interrupt 84 = .ok (.aload_n 0, 1) := by decide +kernel
theorem md_M_interrupt_85 : decode mc_M_interrupt 85 = .ok (.getfield 156, 3) := by decide +kernel
theorem md_M_interrupt_88 : decode mc_M_interrupt 88 = .ok (.lload 4, 2) := by decide +kernel
theorem md_M_interrupt_90 : decode mc_M_interrupt 90 = .ok (.lastore, 1) := by decide +kernel
theorem md_M_interrupt_91 : decode mc_M_interrupt 91 = .ok (.aload_n 0, 1) := by decide +kernel
theorem md_M_interrupt_92 : decode mc_M_interrupt 92 = .ok (.dup, 1) := by decide +kernel
theorem md_M_interrupt_93 : decode mc_M_interrupt 93 = .ok (.getfield 156, 3) := by decide +kernel
theorem md_M_interrupt_96 : decode mc_M_interrupt 96 = .ok (.iconst 1, 1) := by decide +kernel
theorem md_M_interrupt_97 : decode mc_M_interrupt 97 = .ok (.iadd, 1) := by decide +kernel
theorem md_M_interrupt_98 : decode mc_M_interrupt 98 = .ok (.putfield 156, 3) := by decide +kernel
theorem md_M_interrupt_101 : decode mc_M_interrupt 101 = .ok (.aload_n 0, 1) := by decide +kernel
theorem md_M_interrupt_102 : decode mc_M_interrupt 102 = .ok (.getfield 156, 3) := by decide +kernel
theorem md_M_interrupt_105 : decode mc_M_interrupt 105 = .ok (.ireturn, 1) := by decide +kernel
theorem md_M_tell_0 : decode mc_M_tell 0 = .ok (.aload_n 0, 1) := by decide +kernel
theorem md_M_tell_1 : decode mc_M_tell 1 = .ok (.getfield 159, 3) := by decide +kernel
theorem md_M_tell_4 : decode mc_M_tell 4 = .ok (.sipush 1000, 3) := by decide +kernel
theorem md_M_tell_7 : decode mc_M_tell 7 = .ok (.if_icmp .ge 36, 3) := by decide +kernel
theorem md_M_tell_10 : decode mc_M_tell 10 = .ok (.aload_n 0, 1) := by decide +kernel
theorem md_M_tell_11 : decode mc_M_tell 11 = .ok (.getfield 99, 3) := by decide +kernel
theorem md_M_tell_14 : decode mc_M_tell 14 = .ok (.aload_n 0, 1) := by decide +kernel
theorem md_M_tell_15 : decode mc_M_tell 15 = .ok (.getfield 159, 3) := by decide +kernel
theorem md_M_tell_18 : decode mc_M_tell 18 = .ok (.iload_n 1, 1) := by decide +kernel
theorem md_M_tell_19 : decode mc_M_tell 19 = .ok (.iastore, 1) := by decide +kernel
theorem md_M_tell_20 : decode mc_M_tell 20 = .ok (.aload_n 0, 1) := by decide +kernel
theorem md_M_tell_21 : decode mc_M_tell 21 = .ok (.getfield 102, 3) := by decide +kernel
theorem md_M_tell_24 : decode mc_M_tell 24 = .ok (.aload_n 0, 1) := by decide +kernel
theorem md_M_tell_25 : decode mc_M_tell 25 = .ok (.getfield 159, 3) := by decide +kernel
theorem md_M_tell_28 : decode mc_M_tell 28 = .ok (.iload_n 2, 1) := by decide +kernel
theorem md_M_tell_29 : decode mc_M_tell 29 = .ok (.iastore, 1) := by decide +kernel
theorem md_M_tell_30 : decode mc_M_tell 30 = .ok (.aload_n 0, 1) := by decide +kernel
theorem md_M_tell_31 : decode mc_M_tell 31 = .ok (.getfield 105, 3) := by decide +kernel
theorem md_M_tell_34 : decode mc_M_tell 34 = .ok (.aload_n 0, 1) := by decide +kernel
theorem md_M_tell_35 : decode mc_M_tell 35 = .ok (.getfield 159, 3) := by decide +kernel
theorem md_M_tell_38 : decode mc_M_tell 38 = .ok (.aload_n 0, 1) := by decide +kernel
theorem md_M_tell_39 : decode mc_M_tell 39 = .ok (.getfield 120, 3) := by decide +kernel
theorem md_M_tell_42 : decode mc_M_tell 42 = .ok (.lastore, 1) := by decide +kernel
theorem md_M_tell_43 : decode mc_M_tell 43 = .ok (.aload_n 0, 1) := by decide +kernel
theorem md_M_tell_44 : decode mc_M_tell 44 = .ok (.dup, 1) := by decide +kernel
theorem md_M_tell_45 : decode mc_M_tell 45 = .ok (.getfield 159, 3) := by decide +kernel
theorem md_M_tell_48 : decode mc_M_tell 48 = .ok (.iconst 1, 1) := by decide +kernel
theorem md_M_tell_49 : decode mc_M_tell 49 = .ok (.iadd, 1) := by decide +kernel
theorem md_M_tell_50 : decode mc_M_tell 50 = .ok (.putfield 159, 3) := by decide +kernel
theorem md_M_tell_53 : decode mc_M_tell 53 = .ok (.return_, 1) := by decide +kernel
theorem md_M_ready_0 : decode mc_M_ready 0 = .ok (.aload_n 0, 1) := by decide +kernel
theorem md_M_ready_1 : decode mc_M_ready 1 = .ok (.dup, 1) := by decide +kernel
theorem md_M_ready_2 : decode mc_M_ready 2 = .ok (.getfield 162, 3) := by decide +kernel
theorem md_M_ready_5 : decode mc_M_ready 5 = .ok (.lconst 1, 1) := by decide +kernel
theorem md_M_ready_6 : decode mc_M_ready 6 = .ok (.ladd, 1) := by decide +kernel
theorem md_M_ready_7 : decode mc_M_ready 7 = .ok (.putfield 162, 3) := by decide +kernel
theorem md_M_ready_10 : decode mc_M_ready 10 = .ok (.aload_n 0, 1) := by decide +kernel
theorem md_M_ready_11 : decode mc_M_ready 11 = .ok (.getfield 39, 3) := by decide +kernel
theorem md_M_ready_14 : decode mc_M_ready 14 = .ok (.iload_n 1, 1) := by decide +kernel
theorem md_M_ready_15 : decode mc_M_ready 15 = .ok (.aload_n 0, 1) := by decide +kernel
theorem md_M_ready_16 : decode mc_M_ready 16 = .ok (.getfield 162, 3) := by decide +kernel
theorem md_M_ready_19 : decode mc_M_ready 19 = .ok (.lastore, 1) := by decide +kernel
theorem md_M_ready_20 : decode mc_M_ready 20 = .ok (.aload_n 0, 1) := by decide +kernel
theorem md_M_ready_21 : decode mc_M_ready 21 = .ok (.getfield 36, 3) := by decide +kernel
theorem md_M_ready_24 : decode mc_M_ready 24 = .ok (.iload_n 1, 1) := by decide +kernel
theorem md_M_ready_25 : decode mc_M_ready 25 = .ok (.iconst 1, 1) := by decide +kernel
theorem md_M_ready_26 : decode mc_M_ready 26 = .ok (.iastore, 1) := by decide +kernel
theorem md_M_ready_27 : decode mc_M_ready 27 = .ok (.return_, 1) := by decide +kernel
theorem md_M_begin_0 : decode mc_M_begin 0 = .ok (.aload_n 0, 1) := by decide +kernel
theorem md_M_begin_1 : decode mc_M_begin 1 = .ok (.getfield 36, 3) := by decide +kernel
theorem md_M_begin_4 : decode mc_M_begin 4 = .ok (.iload_n 1, 1) := by decide +kernel
theorem md_M_begin_5 : decode mc_M_begin 5 = .ok (.iaload, 1) := by decide +kernel
theorem md_M_begin_6 : decode mc_M_begin 6 = .ok (.ifCond .eq 40, 3) := by decide +kernel
theorem md_M_begin_9 : decode mc_M_begin 9 = .ok (.iconst 1, 1) := by decide +kernel
theorem md_M_begin_10 : decode mc_M_begin 10 = .ok (.aload_n 0, 1) := by decide +kernel
theorem md_M_begin_11 : decode mc_M_begin 11 = .ok (.getfield 42, 3) := by decide +kernel
theorem md_M_begin_14 : decode mc_M_begin 14 = .ok (.iload_n 1, 1) := by decide +kernel
theorem md_M_begin_15 : decode mc_M_begin 15 = .ok (.iaload, 1) := by decide +kernel
theorem md_M_begin_16 : decode mc_M_begin 16 = .ok (.iadd, 1) := by decide +kernel
theorem md_M_begin_17 : decode mc_M_begin 17 = .ok (.aload_n 0, 1) := by decide +kernel
theorem md_M_begin_18 : decode mc_M_begin 18 = .ok (.getfield 16, 3) := by decide +kernel
theorem md_M_begin_21 : decode mc_M_begin 21 = .ok (.iload_n 1, 1) := by decide +kernel
theorem md_M_begin_22 : decode mc_M_begin 22 = .ok (.iaload, 1) := by decide +kernel
theorem md_M_begin_23 : decode mc_M_begin 23 = .ok (.if_icmp .lt 12, 3) := by decide +kernel
theorem md_M_begin_26 : decode mc_M_begin 26 = .ok (.aload_n 0, 1) := by decide +kernel
theorem md_M_begin_27 : decode mc_M_begin 27 = .ok (.iconst 1, 1) := by decide +kernel
theorem md_M_begin_28 : decode mc_M_begin 28 = .ok (.iload_n 1, 1) := by decide +kernel
theorem md_M_begin_29 : decode mc_M_begin 29 = .ok (.invokevirtual 165, 3) := by decide +kernel
theorem md_M_begin_32 : decode mc_M_begin 32 = .ok (.goto 13, 3) := by decide +kernel
theorem md_M_begin_35 : decode mc_M_begin 35 = .ok (.aload_n 0, 1) := by decide +kernel
theorem md_M_begin_36 : decode mc_M_begin 36 = .ok (.getfield 42, 3) := by decide +kernel
theorem md_M_begin_39 : decode mc_M_begin 39 = .ok (.iload_n 1, 1) := by decide +kernel
theorem md_M_begin_40 : decode mc_M_begin 40 = .ok (.dup2, 1) := by decide +kernel
theorem md_M_begin_41 : decode mc_M_begin 41 = .ok (.iaload, 1) := by decide +kernel
theorem md_M_begin_42 : decode mc_M_begin 42 = .ok (.iconst 1, 1) := by decide +kernel
theorem md_M_begin_43 : decode mc_M_begin 43 = .ok (.iadd, 1) := by decide +kernel
theorem md_M_begin_44 : decode mc_M_begin 44 = .ok (.iastore, 1) := by decide +kernel
theorem md_M_begin_45 : decode mc_M_begin 45 = .ok (.return_, 1) := by decide +kernel
theorem md_M_begin_46 : decode mc_M_begin 46 = .ok (.aload_n 0, 1) := by decide +kernel
theorem md_M_begin_47 : decode mc_M_begin 47 = .ok (.iload_n 1, 1) := by decide +kernel
theorem md_M_begin_48 : decode mc_M_begin 48 = .ok (.invokevirtual 169, 3) := by decide +kernel
theorem md_M_begin_51 : decode mc_M_begin 51 = .ok (.aload_n 0, 1) := by decide +kernel
theorem md_M_begin_52 : decode mc_M_begin 52 = .ok (.getfield 54, 3) := by decide +kernel
theorem md_M_begin_55 : decode mc_M_begin 55 = .ok (.iload_n 1, 1) := by decide +kernel
theorem md_M_begin_56 : decode mc_M_begin 56 = .ok (.iconst 0, 1) := by decide +kernel
theorem md_M_begin_57 : decode mc_M_begin 57 = .ok (.iastore, 1) := by decide +kernel
theorem md_M_begin_58 : decode mc_M_begin 58 = .ok (.aload_n 0, 1) := by decide +kernel
theorem md_M_begin_59 : decode mc_M_begin 59 = .ok (.getfield 45, 3) := by decide +kernel
theorem md_M_begin_62 : decode mc_M_begin 62 = .ok (.iload_n 1, 1) := by decide +kernel
theorem md_M_begin_63 : decode mc_M_begin 63 = .ok (.iconst 0, 1) := by decide +kernel
theorem md_M_begin_64 : decode mc_M_begin 64 = .ok (.iastore, 1) := by decide +kernel
theorem md_M_begin_65 : decode mc_M_begin 65 = .ok (.aload_n 0, 1) := by decide +kernel
theorem md_M_begin_66 : decode mc_M_begin 66 = .ok (.getfield 48, 3) := by decide +kernel
theorem md_M_begin_69 : decode mc_M_begin 69 = .ok (.iload_n 1, 1) := by decide +kernel
theorem md_M_begin_70 : decode mc_M_begin 70 = .ok (.lconst 1, 1) := by decide +kernel
theorem md_M_begin_71 : decode mc_M_begin 71 = .ok (.lastore, 1) := by decide +kernel
theorem md_M_begin_72 : decode mc_M_begin 72 = .ok (.aload_n 0, 1) := by decide +kernel
theorem md_M_begin_73 : decode mc_M_begin 73 = .ok (.getfield 51, 3) := by decide +kernel
theorem md_M_begin_76 : decode mc_M_begin 76 = .ok (.iload_n 1, 1) := by decide +kernel
theorem md_M_begin_77 : decode mc_M_begin 77 = .ok (.iconst 1, 1) := by decide +kernel
theorem md_M_begin_78 : decode mc_M_begin 78 = .ok (.bastore, 1) := by decide +kernel
theorem md_M_begin_79 : decode mc_M_begin 79 = .ok (.return_, 1) := by decide +kernel
theorem md_M_set_0 : decode mc_M_set 0 = .ok (.aload_n 0, 1) := by decide +kernel
theorem md_M_set_1 : decode mc_M_set 1 = .ok (.getfield 19, 3) := by decide +kernel
theorem md_M_set_4 : decode mc_M_set 4 = .ok (.iload_n 1, 1) := by decide +kernel
theorem md_M_set_5 : decode mc_M_set 5 = .ok (.baload, 1) := by decide +kernel
theorem md_M_set_6 : decode mc_M_set 6 = .ok (.ifCond .eq 12, 3) := by decide +kernel
theorem md_M_set_9 : decode mc_M_set 9 = .ok (.aload_n 0, 1) := by decide +kernel
theorem md_M_set_10 : decode mc_M_set 10 = .ok (.getfield 36, 3) := by decide +kernel
theorem md_M_set_13 : decode mc_M_set 13 = .ok (.iload_n 1, 1) := by decide +kernel
theorem md_M_set_14 : decode mc_M_set 14 = .ok (.iaload, 1) := by decide +kernel
theorem md_M_set_15 : decode mc_M_set 15 = .ok (.ifCond .ne 5, 3) := by decide +kernel
theorem md_M_set_18 : decode mc_M_set 18 = .ok (.iconst 0, 1) := by decide +kernel
theorem md_M_set_19 : decode mc_M_set 19 = .ok (.ireturn, 1) := by decide +kernel
theorem md_M_set_20 : decode mc_M_set 20 = .ok (.aload_n 0, 1) := by decide +kernel
theorem md_M_set_21 : decode mc_M_set 21 = .ok (.getfield 54, 3) := by decide +kernel
theorem md_M_set_24 : decode mc_M_set 24 = .ok (.iload_n 1, 1) := by decide +kernel
theorem md_M_set_25 : decode mc_M_set 25 = .ok (.aload_n 0, 1) := by decide +kernel
theorem md_M_set_26 : decode mc_M_set 26 = .ok (.getfield 54, 3) := by decide +kernel
theorem md_M_set_29 : decode mc_M_set 29 = .ok (.iload_n 1, 1) := by decide +kernel
theorem md_M_set_30 : decode mc_M_set 30 = .ok (.iaload, 1) := by decide +kernel
theorem md_M_set_31 : decode mc_M_set 31 = .ok (.iload_n 2, 1) := by decide +kernel
theorem md_M_set_32 : decode mc_M_set 32 = .ok (.ior, 1) := by decide +kernel
theorem md_M_set_33 : decode mc_M_set 33 = .ok (.iastore, 1) := by decide +kernel
theorem md_M_set_34 : decode mc_M_set 34 = .ok (.aload_n 0, 1) := by decide +kernel
theorem md_M_set_35 : decode mc_M_set 35 = .ok (.getfield 36, 3) := by decide +kernel
theorem md_M_set_38 : decode mc_M_set 38 = .ok (.iload_n 1, 1) := by decide +kernel
theorem md_M_set_39 : decode mc_M_set 39 = .ok (.iaload, 1) := by decide +kernel
theorem md_M_set_40 : decode mc_M_set 40 = .ok (.iconst 3, 1) := by decide +kernel
theorem md_M_set_41 : decode mc_M_set 41 = .ok (.if_icmp .ne 24, 3) := by decide +kernel
theorem md_M_set_44 : decode mc_M_set 44 = .ok (.aload_n 0, 1) := by decide +kernel
theorem md_M_set_45 : decode mc_M_set 45 = .ok (.getfield 54, 3) := by decide +kernel
theorem md_M_set_48 : decode mc_M_set 48 = .ok (.iload_n 1, 1) := by decide +kernel
theorem md_M_set_49 : decode mc_M_set 49 = .ok (.iaload, 1) := by decide +kernel
theorem md_M_set_50 : decode mc_M_set 50 = .ok (.aload_n 0, 1) := by decide +kernel
theorem md_M_set_51 : decode mc_M_set 51 = .ok (.getfield 57, 3) := by decide +kernel
theorem md_M_set_54 : decode mc_M_set 54 = .ok (.iload_n 1, 1) := by decide +kernel
theorem md_M_set_55 : decode mc_M_set 55 = .ok (.iaload, 1) := by decide +kernel
theorem md_M_set_56 : decode mc_M_set 56 = .ok (.iand, 1) := by decide +kernel
theorem md_M_set_57 : decode mc_M_set 57 = .ok (.ifCond .eq 8, 3) := by decide +kernel
theorem md_M_set_60 : decode mc_M_set 60 = .ok (.aload_n 0, 1) := by decide +kernel
theorem md_M_set_61 : decode mc_M_set 61 = .ok (.iload_n 1, 1) := by decide +kernel
theorem md_M_set_62 : decode mc_M_set 62 = .ok (.invokevirtual 169, 3) := by decide +kernel
theorem md_M_set_65 : decode mc_M_set 65 = .ok (.iconst 1, 1) := by decide +kernel
theorem md_M_set_66 : decode mc_M_set 66 = .ok (.ireturn, 1) := by decide +kernel
theorem md_M_unlock_0 : decode mc_M_unlock 0 = .ok (.aload_n 0, 1) := by decide +kernel
theorem md_M_unlock_1 : decode mc_M_unlock 1 = .ok (.getfield 75, 3) := by decide +kernel
theorem md_M_unlock_4 : decode mc_M_unlock 4 = .ok (.iload_n 1, 1) := by decide +kernel
theorem md_M_unlock_5 : decode mc_M_unlock 5 = .ok (.iconst 0, 1) := by decide +kernel
theorem md_M_unlock_6 : decode mc_M_unlock 6 = .ok (.iastore, 1) := by decide +kernel
theorem md_M_unlock_7 : decode mc_M_unlock 7 = .ok (.iconst 0, 1) := by decide +kernel
theorem md_M_unlock_8 : decode mc_M_unlock 8 = .ok (.istore_n 2, 1) := by decide +kernel
theorem md_M_unlock_9 : decode mc_M_unlock 9 = .ok (.iconst 1, 1) := by decide +kernel
theorem md_M_unlock_10 : decode mc_M_unlock 10 = .ok (.istore_n 3, 1) := by decide +kernel
theorem md_M_unlock_11 : decode mc_M_unlock 11 = .ok (.iload_n 3, 1) := by decide +kernel
theorem md_M_unlock_12 : decode mc_M_unlock 12 = .ok (.aload_n 0, 1) := by decide +kernel
theorem md_M_unlock_13 : decode mc_M_unlock 13 = .ok (.getfield 117, 3) := by decide +kernel
theorem md_M_unlock_16 : decode mc_M_unlock 16 = .ok (.if_icmp .gt 41, 3) := by decide +kernel
theorem md_M_unlock_19 : decode mc_M_unlock 19 = .ok (.aload_n 0, 1) := by decide +kernel
theorem md_M_unlock_20 : decode mc_M_unlock 20 = .ok (.getfield 78, 3) := by decide +kernel
theorem md_M_unlock_23 : decode mc_M_unlock 23 = .ok (.iload_n 3, 1) := by decide +kernel
theorem md_M_unlock_24 : decode mc_M_unlock 24 = .ok (.iaload, 1) := by decide +kernel
theorem md_M_unlock_25 : decode mc_M_unlock 25 = .ok (.iload_n 1, 1) := by decide +kernel
theorem md_M_unlock_26 : decode mc_M_unlock 26 = .ok (.if_icmp .ne 25, 3) := by decide +kernel
theorem md_M_unlock_29 : decode mc_M_unlock 29 = .ok (.iload_n 2, 1) := by decide +kernel
theorem md_M_unlock_30 : decode mc_M_unlock 30 = .ok (.ifCond .eq 19, 3) := by decide +kernel
theorem md_M_unlock_33 : decode mc_M_unlock 33 = .ok (.aload_n 0, 1) := by decide +kernel
theorem md_M_unlock_34 : decode mc_M_unlock 34 = .ok (.getfield 81, 3) := by decide +kernel
theorem md_M_unlock_37 : decode mc_M_unlock 37 = .ok (.iload_n 3, 1) := by decide +kernel
theorem md_M_unlock_38 : decode mc_M_unlock 38 = .ok (.laload, 1) := by decide +kernel
theorem md_M_unlock_39 : decode mc_M_unlock 39 = .ok (.aload_n 0, 1) := by decide +kernel
theorem md_M_unlock_40 : decode mc_M_unlock 40 = .ok (.getfield 81, 3) := by decide +kernel
theorem md_M_unlock_43 : decode mc_M_unlock 43 = .ok (.iload_n 2, 1) := by decide +kernel
theorem md_M_unlock_44 : decode mc_M_unlock 44 = .ok (.laload, 1) := by decide +kernel
theorem md_M_unlock_45 : decode mc_M_unlock 45 = .ok (.lcmp, 1) := by decide +kernel
theorem md_M_unlock_46 : decode mc_M_unlock 46 = .ok (.ifCond .ge 5, 3) := by decide +kernel
theorem md_M_unlock_49 : decode mc_M_unlock 49 = .ok (.iload_n 3, 1) := by decide +kernel
theorem md_M_unlock_50 : decode mc_M_unlock 50 = .ok (.istore_n 2, 1) := by decide +kernel
theorem md_M_unlock_51 : decode mc_M_unlock 51 = .ok (.iinc 3 1, 3) := by decide +kernel
theorem md_M_unlock_54 : decode mc_M_unlock 54 = .ok (.goto (-43), 3) := by decide +kernel
theorem md_M_unlock_57 : decode mc_M_unlock 57 = .ok (.iload_n 2, 1) := by decide +kernel
theorem md_M_unlock_58 : decode mc_M_unlock 58 = .ok (.ifCond .ne 4, 3) := by decide +kernel
theorem md_M_unlock_61 : decode mc_M_unlock 61 = .ok (.return_, 1) := by decide +kernel
theorem md_M_unlock_62 : decode mc_M_unlock 62 = .ok (.aload_n 0, 1) := by decide +kernel
theorem md_M_unlock_63 : decode mc_M_unlock 63 = .ok (.getfield 75, 3) := by decide +kernel
theorem md_M_unlock_66 : decode mc_M_unlock 66 = .ok (.iload_n 1, 1) := by decide +kernel
theorem md_M_unlock_67 : decode mc_M_unlock 67 = .ok (.iload_n 2, 1) := by decide +kernel
theorem md_M_unlock_68 : decode mc_M_unlock 68 = .ok (.iastore, 1) := by decide +kernel
theorem md_M_unlock_69 : decode mc_M_unlock 69 = .ok (.aload_n 0, 1) := by decide +kernel
theorem md_M_unlock_70 : decode mc_M_unlock 70 = .ok (.getfield 78, 3) := by decide +kernel
theorem md_M_unlock_73 : decode mc_M_unlock 73 = .ok (.iload_n 2, 1) := by decide +kernel
theorem md_M_unlock_74 : decode mc_M_unlock 74 = .ok (.iconst 0, 1) := by decide +kernel
theorem md_M_unlock_75 : decode mc_M_unlock 75 = .ok (.iastore, 1) := by decide +kernel
theorem md_M_unlock_76 : decode mc_M_unlock 76 = .ok (.aload_n 0, 1) := by decide +kernel
theorem md_M_unlock_77 : decode mc_M_unlock 77 = .ok (.getfield 45, 3) := by decide +kernel
theorem md_M_unlock_80 : decode mc_M_unlock 80 = .ok (.iload_n 2, 1) := by decide +kernel
theorem md_M_unlock_81 : decode mc_M_unlock 81 = .ok (.dup2, 1) := by decide +kernel
theorem md_M_unlock_82 : decode mc_M_unlock 82 = .ok (.iaload, 1) := by decide +kernel
theorem md_M_unlock_83 : decode mc_M_unlock 83 = .ok (.iconst 1, 1) := by decide +kernel
theorem md_M_unlock_84 : decode mc_M_unlock 84 = .ok (.iadd, 1) := by decide +kernel
theorem md_M_unlock_85 : decode mc_M_unlock 85 = .ok (.iastore, 1) := by decide +kernel
theorem md_M_unlock_86 : decode mc_M_unlock 86 = .ok (.return_, 1) := by decide +kernel
theorem md_M_holdsSome_0 : decode mc_M_holdsSome 0 = .ok (.iconst 0, 1) := by decide +kernel
theorem md_M_holdsSome_1 : decode mc_M_holdsSome 1 = .ok (.istore_n 2, 1) := by decide +kernel
theorem md_M_holdsSome_2 : decode mc_M_holdsSome 2 = .ok (.iconst 1, 1) := by decide +kernel
theorem md_M_holdsSome_3 : decode mc_M_holdsSome 3 = .ok (.istore_n 3, 1) := by decide +kernel
theorem md_M_holdsSome_4 : decode mc_M_holdsSome 4 = .ok (.iload_n 3, 1) := by decide +kernel
theorem md_M_holdsSome_5 : decode mc_M_holdsSome 5 = .ok (.bipush 32, 2) := by decide +kernel
theorem md_M_holdsSome_7 : decode mc_M_holdsSome 7 = .ok (.if_icmp .gt 29, 3) := by decide +kernel
theorem md_M_holdsSome_10 : decode mc_M_holdsSome 10 = .ok (.iload_n 2, 1) := by decide +kernel
theorem md_M_holdsSome_11 : decode mc_M_holdsSome 11 = .ok (.ifCond .ne 13, 3) := by decide +kernel
theorem md_M_holdsSome_14 : decode mc_M_holdsSome 14 = .ok (.aload_n 0, 1) := by decide +kernel
theorem md_M_holdsSome_15 : decode mc_M_holdsSome 15 = .ok (.getfield 66, 3) := by decide +kernel
theorem md_M_holdsSome_18 : decode mc_M_holdsSome 18 = .ok (.iload_n 3, 1) := by decide +kernel
theorem md_M_holdsSome_19 : decode mc_M_holdsSome 19 = .ok (.iaload, 1) := by decide +kernel
theorem md_M_holdsSome_20 : decode mc_M_holdsSome 20 = .ok (.iload_n 1, 1) := by decide +kernel
theorem md_M_holdsSome_21 : decode mc_M_holdsSome 21 = .ok (.if_icmp .ne 7, 3) := by decide +kernel
theorem md_M_holdsSome_24 : decode mc_M_holdsSome 24 = .ok (.iconst 1, 1) := by decide +kernel
theorem md_M_holdsSome_25 : decode mc_M_holdsSome 25 = .ok (.goto 4, 3) := by decide +kernel
theorem md_M_holdsSome_28 : decode mc_M_holdsSome 28 = .ok (.iconst 0, 1) := by decide +kernel
theorem md_M_holdsSome_29 : decode mc_M_holdsSome 29 = .ok (.istore_n 2, 1) := by decide +kernel
theorem md_M_holdsSome_30 : decode mc_M_holdsSome 30 = .ok (.iinc 3 1, 3) := by decide +kernel
theorem md_M_holdsSome_33 : decode mc_M_holdsSome 33 = .ok (.goto (-29), 3) := by decide +kernel
theorem md_M_holdsSome_36 : decode mc_M_holdsSome 36 = .ok (.iconst 1, 1) := by decide +kernel
theorem md_M_holdsSome_37 : decode mc_M_holdsSome 37 = .ok (.istore_n 3, 1) := by decide +kernel
theorem md_M_holdsSome_38 : decode mc_M_holdsSome 38 = .ok (.iload_n 3, 1) := by decide +kernel
theorem md_M_holdsSome_39 : decode mc_M_holdsSome 39 = .ok (.bipush 16, 2) := by decide +kernel
theorem md_M_holdsSome_41 : decode mc_M_holdsSome 41 = .ok (.if_icmp .gt 29, 3) := by decide +kernel
theorem md_M_holdsSome_44 : decode mc_M_holdsSome 44 = .ok (.iload_n 2, 1) := by decide +kernel
theorem md_M_holdsSome_45 : decode mc_M_holdsSome 45 = .ok (.ifCond .ne 13, 3) := by decide +kernel
theorem md_M_holdsSome_48 : decode mc_M_holdsSome 48 = .ok (.aload_n 0, 1) := by decide +kernel
theorem md_M_holdsSome_49 : decode mc_M_holdsSome 49 = .ok (.getfield 75, 3) := by decide +kernel
theorem md_M_holdsSome_52 : decode mc_M_holdsSome 52 = .ok (.iload_n 3, 1) := by decide +kernel
theorem md_M_holdsSome_53 : decode mc_M_holdsSome 53 = .ok (.iaload, 1) := by decide +kernel
theorem md_M_holdsSome_54 : decode mc_M_holdsSome 54 = .ok (.iload_n 1, 1) := by decide +kernel
theorem md_M_holdsSome_55 : decode mc_M_holdsSome 55 = .ok (.if_icmp .ne 7, 3) := by decide +kernel
theorem md_M_holdsSome_58 : decode mc_M_holdsSome 58 = .ok (.iconst 1, 1) := by decide +kernel
theorem md_M_holdsSome_59 : decode mc_M_holdsSome 59 = .ok (.goto 4, 3) := by decide +kernel
theorem md_M_holdsSome_62 : decode mc_M_holdsSome 62 = .ok (.iconst 0, 1) := by decide +kernel
theorem md_M_holdsSome_63 : decode mc_M_holdsSome 63 = .ok (.istore_n 2, 1) := by decide +kernel
theorem md_M_holdsSome_64 : decode mc_M_holdsSome 64 = .ok (.iinc 3 1, 3) := by decide +kernel
theorem md_M_holdsSome_67 : decode mc_M_holdsSome 67 = .ok (.goto (-29), 3) := by decide +kernel
theorem md_M_holdsSome_70 : decode mc_M_holdsSome 70 = .ok (.iload_n 2, 1) := by decide +kernel
theorem md_M_holdsSome_71 : decode mc_M_holdsSome 71 = .ok (.ireturn, 1) := by decide +kernel
theorem md_M_free_0 : decode mc_M_free 0 = .ok (.aload_n 0, 1) := by decide +kernel
theorem md_M_free_1 : decode mc_M_free 1 = .ok (.iload_n 1, 1) := by decide +kernel
theorem md_M_free_2 : decode mc_M_free 2 = .ok (.invokevirtual 173, 3) := by decide +kernel
theorem md_M_free_5 : decode mc_M_free 5 = .ok (.ifCond .ne 11, 3) := by decide +kernel
theorem md_M_free_8 : decode mc_M_free 8 = .ok (.aload_n 0, 1) := by decide +kernel
theorem md_M_free_9 : decode mc_M_free 9 = .ok (.getfield 176, 3) := by decide +kernel
theorem md_M_free_12 : decode mc_M_free 12 = .ok (.iload_n 1, 1) := by decide +kernel
theorem md_M_free_13 : decode mc_M_free 13 = .ok (.if_icmp .ne 7, 3) := by decide +kernel
theorem md_M_free_16 : decode mc_M_free 16 = .ok (.iconst 1, 1) := by decide +kernel
theorem md_M_free_17 : decode mc_M_free 17 = .ok (.goto 4, 3) := by decide +kernel
theorem md_M_free_20 : decode mc_M_free 20 = .ok (.iconst 0, 1) := by decide +kernel
theorem md_M_free_21 : decode mc_M_free 21 = .ok (.istore_n 2, 1) := by decide +kernel
theorem md_M_free_22 : decode mc_M_free 22 = .ok (.iconst 1, 1) := by decide +kernel
theorem md_M_free_23 : decode mc_M_free 23 = .ok (.istore_n 3, 1) := by decide +kernel
theorem md_M_free_24 : decode mc_M_free 24 = .ok (.iload_n 3, 1) := by decide +kernel
theorem md_M_free_25 : decode mc_M_free 25 = .ok (.bipush 32, 2) := by decide +kernel
theorem md_M_free_27 : decode mc_M_free 27 = .ok (.if_icmp .gt 35, 3) := by decide +kernel
theorem md_M_free_30 : decode mc_M_free 30 = .ok (.aload_n 0, 1) := by decide +kernel
theorem md_M_free_31 : decode mc_M_free 31 = .ok (.getfield 66, 3) := by decide +kernel
theorem md_M_free_34 : decode mc_M_free 34 = .ok (.iload_n 3, 1) := by decide +kernel
theorem md_M_free_35 : decode mc_M_free 35 = .ok (.aload_n 0, 1) := by decide +kernel
theorem md_M_free_36 : decode mc_M_free 36 = .ok (.getfield 66, 3) := by decide +kernel
theorem md_M_free_39 : decode mc_M_free 39 = .ok (.iload_n 3, 1) := by decide +kernel
theorem md_M_free_40 : decode mc_M_free 40 = .ok (.iaload, 1) := by decide +kernel
theorem md_M_free_41 : decode mc_M_free 41 = .ok (.iload_n 1, 1) := by decide +kernel
theorem md_M_free_42 : decode mc_M_free 42 = .ok (.if_icmp .ne 7, 3) := by decide +kernel
theorem md_M_free_45 : decode mc_M_free 45 = .ok (.iconst 0, 1) := by decide +kernel
theorem md_M_free_46 : decode mc_M_free 46 = .ok (.goto 9, 3) := by decide +kernel
theorem md_M_free_49 : decode mc_M_free 49 = .ok (.aload_n 0, 1) := by decide +kernel
theorem md_M_free_50 : decode mc_M_free 50 = .ok (.getfield 66, 3) := by decide +kernel
theorem md_M_free_53 : decode mc_M_free 53 = .ok (.iload_n 3, 1) := by decide +kernel
theorem md_M_free_54 : decode mc_M_free 54 = .ok (.iaload, 1) := by decide +kernel
theorem md_M_free_55 : decode mc_M_free 55 = .ok (.iastore, 1) := by decide +kernel
theorem md_M_free_56 : decode mc_M_free 56 = .ok (.iinc 3 1, 3) := by decide +kernel
theorem md_M_free_59 : decode mc_M_free 59 = .ok (.goto (-35), 3) := by decide +kernel
theorem md_M_free_62 : decode mc_M_free 62 = .ok (.iconst 1, 1) := by decide +kernel
theorem md_M_free_63 : decode mc_M_free 63 = .ok (.istore_n 3, 1) := by decide +kernel
theorem md_M_free_64 : decode mc_M_free 64 = .ok (.iload_n 3, 1) := by decide +kernel
theorem md_M_free_65 : decode mc_M_free 65 = .ok (.bipush 16, 2) := by decide +kernel
theorem md_M_free_67 : decode mc_M_free 67 = .ok (.if_icmp .gt 24, 3) := by decide +kernel
theorem md_M_free_70 : decode mc_M_free 70 = .ok (.aload_n 0, 1) := by decide +kernel
theorem md_M_free_71 : decode mc_M_free 71 = .ok (.getfield 75, 3) := by decide +kernel
theorem md_M_free_74 : decode mc_M_free 74 = .ok (.iload_n 3, 1) := by decide +kernel
theorem md_M_free_75 : decode mc_M_free 75 = .ok (.iaload, 1) := by decide +kernel
theorem md_M_free_76 : decode mc_M_free 76 = .ok (.iload_n 1, 1) := by decide +kernel
theorem md_M_free_77 : decode mc_M_free 77 = .ok (.if_icmp .ne 8, 3) := by decide +kernel
theorem md_M_free_80 : decode mc_M_free 80 = .ok (.aload_n 0, 1) := by decide +kernel
theorem md_M_free_81 : decode mc_M_free 81 = .ok (.iload_n 3, 1) := by decide +kernel
theorem md_M_free_82 : decode mc_M_free 82 = .ok (.invokevirtual 179, 3) := by decide +kernel
theorem md_M_free_85 : decode mc_M_free 85 = .ok (.iinc 3 1, 3) := by decide +kernel
theorem md_M_free_88 : decode mc_M_free 88 = .ok (.goto (-24), 3) := by decide +kernel
theorem md_M_free_91 : decode mc_M_free 91 = .ok (.aload_n 0, 1) := by decide +kernel
theorem md_M_free_92 : decode mc_M_free 92 = .ok (.aload_n 0, 1) := by decide +kernel
theorem md_M_free_93 : decode mc_M_free 93 = .ok (.getfield 176, 3) := by decide +kernel
theorem md_M_free_96 : decode mc_M_free 96 = .ok (.iload_n 1, 1) := by decide +kernel
theorem md_M_free_97 : decode mc_M_free 97 = .ok (.if_icmp .ne 7, 3) := by decide +kernel
theorem md_M_free_100 : decode mc_M_free 100 = .ok (.iconst 0, 1) := by decide +kernel
theorem md_M_free_101 : decode mc_M_free 101 = .ok (.goto 7, 3) := by decide +kernel
theorem md_M_free_104 : decode mc_M_free 104 = .ok (.aload_n 0, 1) := by decide +kernel
theorem md_M_free_105 : decode mc_M_free 105 = .ok (.getfield 176, 3) := by decide +kernel
theorem md_M_free_108 : decode mc_M_free 108 = .ok (.putfield 176, 3) := by decide +kernel
theorem md_M_free_111 : decode mc_M_free 111 = .ok (.iload_n 2, 1) := by decide +kernel
theorem md_M_free_112 : decode mc_M_free 112 = .ok (.ifCond .eq 9, 3) := by decide +kernel
theorem md_M_free_115 : decode mc_M_free 115 = .ok (.aload_n 0, 1) := by decide +kernel
theorem md_M_free_116 : decode mc_M_free 116 = .ok (.iconst 3, 1) := by decide +kernel
theorem md_M_free_117 : decode mc_M_free 117 = .ok (.iload_n 1, 1) := by decide +kernel
theorem md_M_free_118 : decode mc_M_free 118 = .ok (.invokevirtual 165, 3) := by decide +kernel
theorem md_M_free_121 : decode mc_M_free 121 = .ok (.aload_n 0, 1) := by decide +kernel
theorem md_M_free_122 : decode mc_M_free 122 = .ok (.getfield 36, 3) := by decide +kernel
theorem md_M_free_125 : decode mc_M_free 125 = .ok (.iload_n 1, 1) := by decide +kernel
theorem md_M_free_126 : decode mc_M_free 126 = .ok (.iconst 0, 1) := by decide +kernel
theorem md_M_free_127 : decode mc_M_free 127 = .ok (.iastore, 1) := by decide +kernel
theorem md_M_free_128 : decode mc_M_free 128 = .ok (.aload_n 0, 1) := by decide +kernel
theorem md_M_free_129 : decode mc_M_free 129 = .ok (.getfield 60, 3) := by decide +kernel
theorem md_M_free_132 : decode mc_M_free 132 = .ok (.iload_n 1, 1) := by decide +kernel
theorem md_M_free_133 : decode mc_M_free 133 = .ok (.iconst 0, 1) := by decide +kernel
theorem md_M_free_134 : decode mc_M_free 134 = .ok (.bastore, 1) := by decide +kernel
theorem md_M_free_135 : decode mc_M_free 135 = .ok (.return_, 1) := by decide +kernel
theorem md_M_ends_0 : decode mc_M_ends 0 = .ok (.aload_n 0, 1) := by decide +kernel
theorem md_M_ends_1 : decode mc_M_ends 1 = .ok (.iload_n 1, 1) := by decide +kernel
theorem md_M_ends_2 : decode mc_M_ends 2 = .ok (.invokevirtual 182, 3) := by decide +kernel
theorem md_M_ends_5 : decode mc_M_ends 5 = .ok (.aload_n 0, 1) := by decide +kernel
theorem md_M_ends_6 : decode mc_M_ends 6 = .ok (.getfield 42, 3) := by decide +kernel
theorem md_M_ends_9 : decode mc_M_ends 9 = .ok (.iload_n 1, 1) := by decide +kernel
theorem md_M_ends_10 : decode mc_M_ends 10 = .ok (.iaload, 1) := by decide +kernel
theorem md_M_ends_11 : decode mc_M_ends 11 = .ok (.ifCond .ne 4, 3) := by decide +kernel
theorem md_M_ends_14 : decode mc_M_ends 14 = .ok (.return_, 1) := by decide +kernel
theorem md_M_ends_15 : decode mc_M_ends 15 = .ok (.aload_n 0, 1) := by decide +kernel
theorem md_M_ends_16 : decode mc_M_ends 16 = .ok (.getfield 42, 3) := by decide +kernel
theorem md_M_ends_19 : decode mc_M_ends 19 = .ok (.iload_n 1, 1) := by decide +kernel
theorem md_M_ends_20 : decode mc_M_ends 20 = .ok (.dup2, 1) := by decide +kernel
theorem md_M_ends_21 : decode mc_M_ends 21 = .ok (.iaload, 1) := by decide +kernel
theorem md_M_ends_22 : decode mc_M_ends 22 = .ok (.iconst 1, 1) := by decide +kernel
theorem md_M_ends_23 : decode mc_M_ends 23 = .ok (.isub, 1) := by decide +kernel
theorem md_M_ends_24 : decode mc_M_ends 24 = .ok (.iastore, 1) := by decide +kernel
theorem md_M_ends_25 : decode mc_M_ends 25 = .ok (.aload_n 0, 1) := by decide +kernel
theorem md_M_ends_26 : decode mc_M_ends 26 = .ok (.iload_n 1, 1) := by decide +kernel
theorem md_M_ends_27 : decode mc_M_ends 27 = .ok (.invokevirtual 185, 3) := by decide +kernel
theorem md_M_ends_30 : decode mc_M_ends 30 = .ok (.return_, 1) := by decide +kernel
theorem md_M_nextPart_0 : decode mc_M_nextPart 0 = .ok (.iconst 0, 1) := by decide +kernel
theorem md_M_nextPart_1 : decode mc_M_nextPart 1 = .ok (.istore_n 2, 1) := by decide +kernel
theorem md_M_nextPart_2 : decode mc_M_nextPart 2 = .ok (.iconst 0, 1) := by decide +kernel
theorem md_M_nextPart_3 : decode mc_M_nextPart 3 = .ok (.istore_n 3, 1) := by decide +kernel
theorem md_M_nextPart_4 : decode mc_M_nextPart 4 = .ok (.iload_n 3, 1) := by decide +kernel
theorem md_M_nextPart_5 : decode mc_M_nextPart 5 = .ok (.aload_n 0, 1) := by decide +kernel
theorem md_M_nextPart_6 : decode mc_M_nextPart 6 = .ok (.getfield 148, 3) := by decide +kernel
theorem md_M_nextPart_9 : decode mc_M_nextPart 9 = .ok (.if_icmp .ge 34, 3) := by decide +kernel
theorem md_M_nextPart_12 : decode mc_M_nextPart 12 = .ok (.aload_n 0, 1) := by decide +kernel
theorem md_M_nextPart_13 : decode mc_M_nextPart 13 = .ok (.getfield 26, 3) := by decide +kernel
theorem md_M_nextPart_16 : decode mc_M_nextPart 16 = .ok (.iload_n 3, 1) := by decide +kernel
theorem md_M_nextPart_17 : decode mc_M_nextPart 17 = .ok (.iaload, 1) := by decide +kernel
theorem md_M_nextPart_18 : decode mc_M_nextPart 18 = .ok (.iload_n 1, 1) := by decide +kernel
theorem md_M_nextPart_19 : decode mc_M_nextPart 19 = .ok (.if_icmp .ne 18, 3) := by decide +kernel
theorem md_M_nextPart_22 : decode mc_M_nextPart 22 = .ok (.iload_n 2, 1) := by decide +kernel
theorem md_M_nextPart_23 : decode mc_M_nextPart 23 = .ok (.aload_n 0, 1) := by decide +kernel
theorem md_M_nextPart_24 : decode mc_M_nextPart 24 = .ok (.getfield 45, 3) := by decide +kernel
theorem md_M_nextPart_27 : decode mc_M_nextPart 27 = .ok (.iload_n 1, 1) := by decide +kernel
theorem md_M_nextPart_28 : decode mc_M_nextPart 28 = .ok (.iaload, 1) := by decide +kernel
theorem md_M_nextPart_29 : decode mc_M_nextPart 29 = .ok (.if_icmp .ne 5, 3) := by decide +kernel
theorem md_M_nextPart_32 : decode mc_M_nextPart 32 = .ok (.iload_n 3, 1) := by decide +kernel
theorem md_M_nextPart_33 : decode mc_M_nextPart 33 = .ok (.ireturn, 1) := by decide +kernel
theorem md_M_nextPart_34 : decode mc_M_nextPart 34 = .ok (.iinc 2 1, 3) := by decide +kernel
theorem md_M_nextPart_37 : decode mc_M_nextPart 37 = .ok (.iinc 3 1, 3) := by decide +kernel
theorem md_M_nextPart_40 : decode mc_M_nextPart 40 = .ok (.goto (-36), 3) := by decide +kernel
theorem md_M_nextPart_43 : decode mc_M_nextPart 43 = .ok (.iconst (-1), 1) := by decide +kernel
theorem md_M_nextPart_44 : decode mc_M_nextPart 44 = .ok (.ireturn, 1) := by decide +kernel
theorem md_M_act_0 : decode mc_M_act 0 = .ok (.lload_n 3, 1) := by decide +kernel
theorem md_M_act_1 : decode mc_M_act 1 = .ok (.l2i, 1) := by decide +kernel
theorem md_M_act_2 : decode mc_M_act 2 = .ok (.istore 5, 2) := by decide +kernel
theorem md_M_act_4 : decode mc_M_act 4 = .ok (.iconst 0, 1) := by decide +kernel
theorem md_M_act_5 : decode mc_M_act 5 = .ok (.istore 6, 2) := by decide +kernel
theorem md_M_act_7 : decode mc_M_act 7 = .ok (.iload_n 2, 1) := by decide +kernel
theorem md_M_act_8 : decode mc_M_act 8 = .ok (.iconst 2, 1) := by decide +kernel
theorem md_M_act_9 : decode mc_M_act 9 = .ok (.if_icmp .ne 11, 3) := by decide +kernel
theorem md_M_act_12 : decode mc_M_act 12 = .ok (.aload_n 0, 1) := by decide +kernel
theorem md_M_act_13 : decode mc_M_act 13 = .ok (.iload_n 1, 1) := by decide +kernel
theorem md_M_act_14 : decode mc_M_act 14 = .ok (.iload 5, 2) := by decide +kernel
theorem md_M_act_16 : decode mc_M_act 16 = .ok (.invokevirtual 188, 3) := by decide +kernel
theorem md_M_act_19 : decode mc_M_act 19 = .ok (.return_, 1) := by decide +kernel
theorem md_M_act_20 : decode mc_M_act 20 = .ok (.iload_n 2, 1) := by decide +kernel
theorem md_M_act_21 : decode mc_M_act 21 = .ok (.bipush 11, 2) := by decide +kernel
theorem md_M_act_23 : decode mc_M_act 23 = .ok (.if_icmp .ne 9, 3) := by decide +kernel
theorem md_M_act_26 : decode mc_M_act 26 = .ok (.aload_n 0, 1) := by decide +kernel
theorem md_M_act_27 : decode mc_M_act 27 = .ok (.iload_n 1, 1) := by decide +kernel
theorem md_M_act_28 : decode mc_M_act 28 = .ok (.invokevirtual 191, 3) := by decide +kernel
theorem md_M_act_31 : decode mc_M_act 31 = .ok (.return_, 1) := by decide +kernel
theorem md_M_act_32 : decode mc_M_act 32 = .ok (.iload_n 2, 1) := by decide +kernel
theorem md_M_act_33 : decode mc_M_act 33 = .ok (.bipush 8, 2) := by decide +kernel
theorem md_M_act_35 : decode mc_M_act 35 = .ok (.if_icmp .ne 53, 3) := by decide +kernel
theorem md_M_act_38 : decode mc_M_act 38 = .ok (.aload_n 0, 1) := by decide +kernel
theorem md_M_act_39 : decode mc_M_act 39 = .ok (.getfield 75, 3) := by decide +kernel
theorem md_M_act_42 : decode mc_M_act 42 = .ok (.iload 5, 2) := by decide +kernel
theorem md_M_act_44 : decode mc_M_act 44 = .ok (.iaload, 1) := by decide +kernel
theorem md_M_act_45 : decode mc_M_act 45 = .ok (.ifCond .eq 43, 3) := by decide +kernel
theorem md_M_act_48 : decode mc_M_act 48 = .ok (.aload_n 0, 1) := by decide +kernel
theorem md_M_act_49 : decode mc_M_act 49 = .ok (.getfield 75, 3) := by decide +kernel
theorem md_M_act_52 : decode mc_M_act 52 = .ok (.iload 5, 2) := by decide +kernel
theorem md_M_act_54 : decode mc_M_act 54 = .ok (.iaload, 1) := by decide +kernel
theorem md_M_act_55 : decode mc_M_act 55 = .ok (.iload_n 1, 1) := by decide +kernel
theorem md_M_act_56 : decode mc_M_act 56 = .ok (.if_icmp .eq 32, 3) := by decide +kernel
theorem md_M_act_59 : decode mc_M_act 59 = .ok (.aload_n 0, 1) := by decide +kernel
theorem md_M_act_60 : decode mc_M_act 60 = .ok (.dup, 1) := by decide +kernel
theorem md_M_act_61 : decode mc_M_act 61 = .ok (.getfield 194, 3) := by decide +kernel
theorem md_M_act_64 : decode mc_M_act 64 = .ok (.lconst 1, 1) := by decide +kernel
theorem md_M_act_65 : decode mc_M_act 65 = .ok (.ladd, 1) := by decide +kernel
theorem md_M_act_66 : decode mc_M_act 66 = .ok (.putfield 194, 3) := by decide +kernel
theorem md_M_act_69 : decode mc_M_act 69 = .ok (.aload_n 0, 1) := by decide +kernel
theorem md_M_act_70 : decode mc_M_act 70 = .ok (.getfield 78, 3) := by decide +kernel
theorem md_M_act_73 : decode mc_M_act 73 = .ok (.iload_n 1, 1) := by decide +kernel
theorem md_M_act_74 : decode mc_M_act 74 = .ok (.iload 5, 2) := by decide +kernel
theorem md_M_act_76 : decode mc_M_act 76 = .ok (.iastore, 1) := by decide +kernel
theorem md_M_act_77 : decode mc_M_act 77 = .ok (.aload_n 0, 1) := by decide +kernel
theorem md_M_act_78 : decode mc_M_act 78 = .ok (.getfield 81, 3) := by decide +kernel
theorem md_M_act_81 : decode mc_M_act 81 = .ok (.iload_n 1, 1) := by decide +kernel
theorem md_M_act_82 : decode mc_M_act 82 = .ok (.aload_n 0, 1) := by decide +kernel
theorem md_M_act_83 : decode mc_M_act 83 = .ok (.getfield 194, 3) := by decide +kernel
theorem md_M_act_86 : decode mc_M_act 86 = .ok (.lastore, 1) := by decide +kernel
theorem md_M_act_87 : decode mc_M_act 87 = .ok (.return_, 1) := by decide +kernel
theorem md_M_act_88 : decode mc_M_act 88 = .ok (.aload_n 0, 1) := by decide +kernel
theorem md_M_act_89 : decode mc_M_act 89 = .ok (.getfield 45, 3) := by decide +kernel
theorem md_M_act_92 : decode mc_M_act 92 = .ok (.iload_n 1, 1) := by decide +kernel
theorem md_M_act_93 : decode mc_M_act 93 = .ok (.dup2, 1) := by decide +kernel
theorem md_M_act_94 : decode mc_M_act 94 = .ok (.iaload, 1) := by decide +kernel
theorem md_M_act_95 : decode mc_M_act 95 = .ok (.iconst 1, 1) := by decide +kernel
theorem md_M_act_96 : decode mc_M_act 96 = .ok (.iadd, 1) := by decide +kernel
theorem md_M_act_97 : decode mc_M_act 97 = .ok (.iastore, 1) := by decide +kernel
theorem md_M_act_98 : decode mc_M_act 98 = .ok (.iload_n 2, 1) := by decide +kernel
theorem md_M_act_99 : decode mc_M_act 99 = .ok (.iconst 1, 1) := by decide +kernel
theorem md_M_act_100 : decode mc_M_act 100 = .ok (.if_icmp .ne 28, 3) := by decide +kernel
theorem md_M_act_103 : decode mc_M_act 103 = .ok (.aload_n 0, 1) := by decide +kernel
theorem md_M_act_104 : decode mc_M_act 104 = .ok (.iload 5, 2) := by decide +kernel
theorem md_M_act_106 : decode mc_M_act 106 = .ok (.invokevirtual 140, 3) := by decide +kernel
theorem md_M_act_109 : decode mc_M_act 109 = .ok (.ifCond .eq 10, 3) := by decide +kernel
theorem md_M_act_112 : decode mc_M_act 112 = .ok (.bipush 8, 2) := by decide +kernel
theorem md_M_act_114 : decode mc_M_act 114 = .ok (.istore 6, 2) := by decide +kernel
theorem md_M_act_116 : decode mc_M_act 116 = .ok (.goto 538, 3) := by decide +kernel
theorem md_M_act_119 : decode mc_M_act 119 = .ok (.aload_n 0, 1) := by decide +kernel
theorem md_M_act_120 : decode mc_M_act 120 = .ok (.iload 5, 2) := by decide +kernel
theorem md_M_act_122 : decode mc_M_act 122 = .ok (.invokevirtual 185, 3) := by decide +kernel
theorem md_M_act_125 : decode mc_M_act 125 = .ok (.goto 529, 3) := by decide +kernel
theorem md_M_act_128 : decode mc_M_act 128 = .ok (.iload_n 2, 1) := by decide +kernel
theorem md_M_act_129 : decode mc_M_act 129 = .ok (.iconst 3, 1) := by decide +kernel
theorem md_M_act_130 : decode mc_M_act 130 = .ok (.if_icmp .ne 66, 3) := by decide +kernel
theorem md_M_act_133 : decode mc_M_act 133 = .ok (.aload_n 0, 1) := by decide +kernel
theorem md_M_act_134 : decode mc_M_act 134 = .ok (.getfield 19, 3) := by decide +kernel
theorem md_M_act_137 : decode mc_M_act 137 = .ok (.iload_n 1, 1) := by decide +kernel
theorem md_M_act_138 : decode mc_M_act 138 = .ok (.baload, 1) := by decide +kernel
theorem md_M_act_139 : decode mc_M_act 139 = .ok (.ifCond .ne 7, 3) := by decide +kernel
theorem md_M_act_142 : decode mc_M_act 142 = .ok (.iconst 2, 1) := by decide +kernel
theorem md_M_act_143 : decode mc_M_act 143 = .ok (.goto 16, 3) := by decide +kernel
theorem md_M_act_146 : decode mc_M_act 146 = .ok (.aload_n 0, 1) := by decide +kernel
theorem md_M_act_147 : decode mc_M_act 147 = .ok (.iload_n 1, 1) := by decide +kernel
theorem md_M_act_148 : decode mc_M_act 148 = .ok (.invokevirtual 173, 3) := by decide +kernel
theorem md_M_act_151 : decode mc_M_act 151 = .ok (.ifCond .eq 7, 3) := by decide +kernel
theorem md_M_act_154 : decode mc_M_act 154 = .ok (.iconst 4, 1) := by decide +kernel
theorem md_M_act_155 : decode mc_M_act 155 = .ok (.goto 4, 3) := by decide +kernel
theorem md_M_act_158 : decode mc_M_act 158 = .ok (.iconst 0, 1) := by decide +kernel
theorem md_M_act_159 : decode mc_M_act 159 = .ok (.istore 6, 2) := by decide +kernel
theorem md_M_act_161 : decode mc_M_act 161 = .ok (.iload 6, 2) := by decide +kernel
theorem md_M_act_163 : decode mc_M_act 163 = .ok (.ifCond .ne 491, 3) := by decide +kernel
theorem md_M_act_166 : decode mc_M_act 166 = .ok (.aload_n 0, 1) := by decide +kernel
theorem md_M_act_167 : decode mc_M_act 167 = .ok (.getfield 54, 3) := by decide +kernel
theorem md_M_act_170 : decode mc_M_act 170 = .ok (.iload_n 1, 1) := by decide +kernel
theorem md_M_act_171 : decode mc_M_act 171 = .ok (.iaload, 1) := by decide +kernel
theorem md_M_act_172 : decode mc_M_act 172 = .ok (.iload 5, 2) := by decide +kernel
theorem md_M_act_174 : decode mc_M_act 174 = .ok (.iand, 1) := by decide +kernel
theorem md_M_act_175 : decode mc_M_act 175 = .ok (.ifCond .ne 479, 3) := by decide +kernel
theorem md_M_act_178 : decode mc_M_act 178 = .ok (.aload_n 0, 1) := by decide +kernel
theorem md_M_act_179 : decode mc_M_act 179 = .ok (.getfield 36, 3) := by decide +kernel
theorem md_M_act_182 : decode mc_M_act 182 = .ok (.iload_n 1, 1) := by decide +kernel
end
section
theorem md_M_act_183 : decode mc_M_act 183 = .ok (.iconst 3, 1) := by decide +kernel
theorem md_M_act_184 : decode mc_M_act 184 = .ok (.iastore, 1) := by decide +kernel
theorem md_M_act_185 : decode mc_M_act 185 = .ok (.aload_n 0, 1) := by decide +kernel
theorem md_M_act_186 : decode mc_M_act 186 = .ok (.getfield 57, 3) := by decide +kernel
theorem md_M_act_189 : decode mc_M_act 189 = .ok (.iload_n 1, 1) := by decide +kernel
theorem md_M_act_190 : decode mc_M_act 190 = .ok (.iload 5, 2) := by decide +kernel
theorem md_M_act_192 : decode mc_M_act 192 = .ok (.iastore, 1) := by decide +kernel
theorem md_M_act_193 : decode mc_M_act 193 = .ok (.goto 461, 3) := by decide +kernel
theorem md_M_act_196 : decode mc_M_act 196 = .ok (.iload_n 2, 1) := by decide +kernel
theorem md_M_act_197 : decode mc_M_act 197 = .ok (.iconst 4, 1) := by decide +kernel
theorem md_M_act_198 : decode mc_M_act 198 = .ok (.if_icmp .ne 48, 3) := by decide +kernel
theorem md_M_act_201 : decode mc_M_act 201 = .ok (.iload 5, 2) := by decide +kernel
theorem md_M_act_203 : decode mc_M_act 203 = .ok (.ldc 197, 2) := by decide +kernel
theorem md_M_act_205 : decode mc_M_act 205 = .ok (.idiv, 1) := by decide +kernel
theorem md_M_act_206 : decode mc_M_act 206 = .ok (.istore 7, 2) := by decide +kernel
theorem md_M_act_208 : decode mc_M_act 208 = .ok (.aload_n 0, 1) := by decide +kernel
theorem md_M_act_209 : decode mc_M_act 209 = .ok (.iload 7, 2) := by decide +kernel
theorem md_M_act_211 : decode mc_M_act 211 = .ok (.invokevirtual 140, 3) := by decide +kernel
theorem md_M_act_214 : decode mc_M_act 214 = .ok (.ifCond .eq 8, 3) := by decide +kernel
theorem md_M_act_217 : decode mc_M_act 217 = .ok (.bipush 8, 2) := by decide +kernel
theorem md_M_act_219 : decode mc_M_act 219 = .ok (.goto 22, 3) := by decide +kernel
theorem md_M_act_222 : decode mc_M_act 222 = .ok (.aload_n 0, 1) := by decide +kernel
theorem md_M_act_223 : decode mc_M_act 223 = .ok (.iload 7, 2) := by decide +kernel
theorem md_M_act_225 : decode mc_M_act 225 = .ok (.iload 5, 2) := by decide +kernel
theorem md_M_act_227 : decode mc_M_act 227 = .ok (.ldc 197, 2) := by decide +kernel
theorem md_M_act_229 : decode mc_M_act 229 = .ok (.irem, 1) := by decide +kernel
theorem md_M_act_230 : decode mc_M_act 230 = .ok (.invokevirtual 198, 3) := by decide +kernel
theorem md_M_act_233 : decode mc_M_act 233 = .ok (.ifCond .eq 7, 3) := by decide +kernel
theorem md_M_act_236 : decode mc_M_act 236 = .ok (.iconst 0, 1) := by decide +kernel
theorem md_M_act_237 : decode mc_M_act 237 = .ok (.goto 4, 3) := by decide +kernel
theorem md_M_act_240 : decode mc_M_act 240 = .ok (.iconst 5, 1) := by decide +kernel
theorem md_M_act_241 : decode mc_M_act 241 = .ok (.istore 6, 2) := by decide +kernel
theorem md_M_act_243 : decode mc_M_act 243 = .ok (.goto 411, 3) := by decide +kernel
theorem md_M_act_246 : decode mc_M_act 246 = .ok (.iload_n 2, 1) := by decide +kernel
theorem md_M_act_247 : decode mc_M_act 247 = .ok (.iconst 5, 1) := by decide +kernel
theorem md_M_act_248 : decode mc_M_act 248 = .ok (.if_icmp .ne 53, 3) := by decide +kernel
theorem md_M_act_251 : decode mc_M_act 251 = .ok (.aload_n 0, 1) := by decide +kernel
theorem md_M_act_252 : decode mc_M_act 252 = .ok (.getfield 19, 3) := by decide +kernel
theorem md_M_act_255 : decode mc_M_act 255 = .ok (.iload_n 1, 1) := by decide +kernel
theorem md_M_act_256 : decode mc_M_act 256 = .ok (.baload, 1) := by decide +kernel
theorem md_M_act_257 : decode mc_M_act 257 = .ok (.ifCond .eq 7, 3) := by decide +kernel
theorem md_M_act_260 : decode mc_M_act 260 = .ok (.iconst 0, 1) := by decide +kernel
theorem md_M_act_261 : decode mc_M_act 261 = .ok (.goto 4, 3) := by decide +kernel
theorem md_M_act_264 : decode mc_M_act 264 = .ok (.iconst 2, 1) := by decide +kernel
theorem md_M_act_265 : decode mc_M_act 265 = .ok (.istore 6, 2) := by decide +kernel
theorem md_M_act_267 : decode mc_M_act 267 = .ok (.aload_n 0, 1) := by decide +kernel
theorem md_M_act_268 : decode mc_M_act 268 = .ok (.getfield 54, 3) := by decide +kernel
theorem md_M_act_271 : decode mc_M_act 271 = .ok (.iload_n 1, 1) := by decide +kernel
theorem md_M_act_272 : decode mc_M_act 272 = .ok (.iload 6, 2) := by decide +kernel
theorem md_M_act_274 : decode mc_M_act 274 = .ok (.ifCond .ne 17, 3) := by decide +kernel
theorem md_M_act_277 : decode mc_M_act 277 = .ok (.aload_n 0, 1) := by decide +kernel
theorem md_M_act_278 : decode mc_M_act 278 = .ok (.getfield 54, 3) := by decide +kernel
theorem md_M_act_281 : decode mc_M_act 281 = .ok (.iload_n 1, 1) := by decide +kernel
theorem md_M_act_282 : decode mc_M_act 282 = .ok (.iaload, 1) := by decide +kernel
theorem md_M_act_283 : decode mc_M_act 283 = .ok (.iload 5, 2) := by decide +kernel
theorem md_M_act_285 : decode mc_M_act 285 = .ok (.iconst (-1), 1) := by decide +kernel
theorem md_M_act_286 : decode mc_M_act 286 = .ok (.ixor, 1) := by decide +kernel
theorem md_M_act_287 : decode mc_M_act 287 = .ok (.iand, 1) := by decide +kernel
theorem md_M_act_288 : decode mc_M_act 288 = .ok (.goto 9, 3) := by decide +kernel
theorem md_M_act_291 : decode mc_M_act 291 = .ok (.aload_n 0, 1) := by decide +kernel
theorem md_M_act_292 : decode mc_M_act 292 = .ok (.getfield 54, 3) := by decide +kernel
theorem md_M_act_295 : decode mc_M_act 295 = .ok (.iload_n 1, 1) := by decide +kernel
theorem md_M_act_296 : decode mc_M_act 296 = .ok (.iaload, 1) := by decide +kernel
theorem md_M_act_297 : decode mc_M_act 297 = .ok (.iastore, 1) := by decide +kernel
theorem md_M_act_298 : decode mc_M_act 298 = .ok (.goto 356, 3) := by decide +kernel
theorem md_M_act_301 : decode mc_M_act 301 = .ok (.iload_n 2, 1) := by decide +kernel
theorem md_M_act_302 : decode mc_M_act 302 = .ok (.bipush 6, 2) := by decide +kernel
theorem md_M_act_304 : decode mc_M_act 304 = .ok (.if_icmp .ne 57, 3) := by decide +kernel
theorem md_M_act_307 : decode mc_M_act 307 = .ok (.aload_n 0, 1) := by decide +kernel
theorem md_M_act_308 : decode mc_M_act 308 = .ok (.getfield 66, 3) := by decide +kernel
theorem md_M_act_311 : decode mc_M_act 311 = .ok (.iload 5, 2) := by decide +kernel
theorem md_M_act_313 : decode mc_M_act 313 = .ok (.iaload, 1) := by decide +kernel
theorem md_M_act_314 : decode mc_M_act 314 = .ok (.ifCond .ne 7, 3) := by decide +kernel
theorem md_M_act_317 : decode mc_M_act 317 = .ok (.iconst 0, 1) := by decide +kernel
theorem md_M_act_318 : decode mc_M_act 318 = .ok (.goto 4, 3) := by decide +kernel
theorem md_M_act_321 : decode mc_M_act 321 = .ok (.iconst 4, 1) := by decide +kernel
theorem md_M_act_322 : decode mc_M_act 322 = .ok (.istore 6, 2) := by decide +kernel
theorem md_M_act_324 : decode mc_M_act 324 = .ok (.iload 6, 2) := by decide +kernel
theorem md_M_act_326 : decode mc_M_act 326 = .ok (.ifCond .ne 328, 3) := by decide +kernel
theorem md_M_act_329 : decode mc_M_act 329 = .ok (.aload_n 0, 1) := by decide +kernel
theorem md_M_act_330 : decode mc_M_act 330 = .ok (.dup, 1) := by decide +kernel
theorem md_M_act_331 : decode mc_M_act 331 = .ok (.getfield 194, 3) := by decide +kernel
theorem md_M_act_334 : decode mc_M_act 334 = .ok (.lconst 1, 1) := by decide +kernel
theorem md_M_act_335 : decode mc_M_act 335 = .ok (.ladd, 1) := by decide +kernel
theorem md_M_act_336 : decode mc_M_act 336 = .ok (.putfield 194, 3) := by decide +kernel
theorem md_M_act_339 : decode mc_M_act 339 = .ok (.aload_n 0, 1) := by decide +kernel
theorem md_M_act_340 : decode mc_M_act 340 = .ok (.getfield 66, 3) := by decide +kernel
theorem md_M_act_343 : decode mc_M_act 343 = .ok (.iload 5, 2) := by decide +kernel
theorem md_M_act_345 : decode mc_M_act 345 = .ok (.iload_n 1, 1) := by decide +kernel
theorem md_M_act_346 : decode mc_M_act 346 = .ok (.iastore, 1) := by decide +kernel
theorem md_M_act_347 : decode mc_M_act 347 = .ok (.aload_n 0, 1) := by decide +kernel
theorem md_M_act_348 : decode mc_M_act 348 = .ok (.getfield 69, 3) := by decide +kernel
theorem md_M_act_351 : decode mc_M_act 351 = .ok (.iload 5, 2) := by decide +kernel
theorem md_M_act_353 : decode mc_M_act 353 = .ok (.aload_n 0, 1) := by decide +kernel
theorem md_M_act_354 : decode mc_M_act 354 = .ok (.getfield 194, 3) := by decide +kernel
theorem md_M_act_357 : decode mc_M_act 357 = .ok (.lastore, 1) := by decide +kernel
theorem md_M_act_358 : decode mc_M_act 358 = .ok (.goto 296, 3) := by decide +kernel
theorem md_M_act_361 : decode mc_M_act 361 = .ok (.iload_n 2, 1) := by decide +kernel
theorem md_M_act_362 : decode mc_M_act 362 = .ok (.bipush 7, 2) := by decide +kernel
theorem md_M_act_364 : decode mc_M_act 364 = .ok (.if_icmp .ne 100, 3) := by decide +kernel
theorem md_M_act_367 : decode mc_M_act 367 = .ok (.aload_n 0, 1) := by decide +kernel
theorem md_M_act_368 : decode mc_M_act 368 = .ok (.getfield 66, 3) := by decide +kernel
theorem md_M_act_371 : decode mc_M_act 371 = .ok (.iload 5, 2) := by decide +kernel
theorem md_M_act_373 : decode mc_M_act 373 = .ok (.iaload, 1) := by decide +kernel
theorem md_M_act_374 : decode mc_M_act 374 = .ok (.iload_n 1, 1) := by decide +kernel
theorem md_M_act_375 : decode mc_M_act 375 = .ok (.if_icmp .ne 7, 3) := by decide +kernel
theorem md_M_act_378 : decode mc_M_act 378 = .ok (.iconst 0, 1) := by decide +kernel
theorem md_M_act_379 : decode mc_M_act 379 = .ok (.goto 4, 3) := by decide +kernel
theorem md_M_act_382 : decode mc_M_act 382 = .ok (.iconst 4, 1) := by decide +kernel
theorem md_M_act_383 : decode mc_M_act 383 = .ok (.istore 6, 2) := by decide +kernel
theorem md_M_act_385 : decode mc_M_act 385 = .ok (.iconst 1, 1) := by decide +kernel
theorem md_M_act_386 : decode mc_M_act 386 = .ok (.istore 7, 2) := by decide +kernel
theorem md_M_act_388 : decode mc_M_act 388 = .ok (.iload 7, 2) := by decide +kernel
theorem md_M_act_390 : decode mc_M_act 390 = .ok (.bipush 32, 2) := by decide +kernel
theorem md_M_act_392 : decode mc_M_act 392 = .ok (.if_icmp .gt 46, 3) := by decide +kernel
theorem md_M_act_395 : decode mc_M_act 395 = .ok (.aload_n 0, 1) := by decide +kernel
theorem md_M_act_396 : decode mc_M_act 396 = .ok (.getfield 66, 3) := by decide +kernel
theorem md_M_act_399 : decode mc_M_act 399 = .ok (.iload 7, 2) := by decide +kernel
theorem md_M_act_401 : decode mc_M_act 401 = .ok (.iaload, 1) := by decide +kernel
theorem md_M_act_402 : decode mc_M_act 402 = .ok (.iload_n 1, 1) := by decide +kernel
theorem md_M_act_403 : decode mc_M_act 403 = .ok (.if_icmp .ne 25, 3) := by decide +kernel
theorem md_M_act_406 : decode mc_M_act 406 = .ok (.aload_n 0, 1) := by decide +kernel
theorem md_M_act_407 : decode mc_M_act 407 = .ok (.getfield 69, 3) := by decide +kernel
theorem md_M_act_410 : decode mc_M_act 410 = .ok (.iload 7, 2) := by decide +kernel
theorem md_M_act_412 : decode mc_M_act 412 = .ok (.laload, 1) := by decide +kernel
theorem md_M_act_413 : decode mc_M_act 413 = .ok (.aload_n 0, 1) := by decide +kernel
theorem md_M_act_414 : decode mc_M_act 414 = .ok (.getfield 69, 3) := by decide +kernel
theorem md_M_act_417 : decode mc_M_act 417 = .ok (.iload 5, 2) := by decide +kernel
theorem md_M_act_419 : decode mc_M_act 419 = .ok (.laload, 1) := by decide +kernel
theorem md_M_act_420 : decode mc_M_act 420 = .ok (.lcmp, 1) := by decide +kernel
theorem md_M_act_421 : decode mc_M_act 421 = .ok (.ifCond .le 7, 3) := by decide +kernel
theorem md_M_act_424 : decode mc_M_act 424 = .ok (.iconst 4, 1) := by decide +kernel
theorem md_M_act_425 : decode mc_M_act 425 = .ok (.goto 5, 3) := by decide +kernel
theorem md_M_act_428 : decode mc_M_act 428 = .ok (.iload 6, 2) := by decide +kernel
theorem md_M_act_430 : decode mc_M_act 430 = .ok (.istore 6, 2) := by decide +kernel
theorem md_M_act_432 : decode mc_M_act 432 = .ok (.iinc 7 1, 3) := by decide +kernel
theorem md_M_act_435 : decode mc_M_act 435 = .ok (.goto (-47), 3) := by decide +kernel
theorem md_M_act_438 : decode mc_M_act 438 = .ok (.aload_n 0, 1) := by decide +kernel
theorem md_M_act_439 : decode mc_M_act 439 = .ok (.getfield 66, 3) := by decide +kernel
theorem md_M_act_442 : decode mc_M_act 442 = .ok (.iload 5, 2) := by decide +kernel
theorem md_M_act_444 : decode mc_M_act 444 = .ok (.iload 6, 2) := by decide +kernel
theorem md_M_act_446 : decode mc_M_act 446 = .ok (.ifCond .ne 7, 3) := by decide +kernel
theorem md_M_act_449 : decode mc_M_act 449 = .ok (.iconst 0, 1) := by decide +kernel
theorem md_M_act_450 : decode mc_M_act 450 = .ok (.goto 10, 3) := by decide +kernel
theorem md_M_act_453 : decode mc_M_act 453 = .ok (.aload_n 0, 1) := by decide +kernel
theorem md_M_act_454 : decode mc_M_act 454 = .ok (.getfield 66, 3) := by decide +kernel
theorem md_M_act_457 : decode mc_M_act 457 = .ok (.iload 5, 2) := by decide +kernel
theorem md_M_act_459 : decode mc_M_act 459 = .ok (.iaload, 1) := by decide +kernel
theorem md_M_act_460 : decode mc_M_act 460 = .ok (.iastore, 1) := by decide +kernel
theorem md_M_act_461 : decode mc_M_act 461 = .ok (.goto 193, 3) := by decide +kernel
theorem md_M_act_464 : decode mc_M_act 464 = .ok (.iload_n 2, 1) := by decide +kernel
theorem md_M_act_465 : decode mc_M_act 465 = .ok (.bipush 8, 2) := by decide +kernel
theorem md_M_act_467 : decode mc_M_act 467 = .ok (.if_icmp .ne 33, 3) := by decide +kernel
theorem md_M_act_470 : decode mc_M_act 470 = .ok (.aload_n 0, 1) := by decide +kernel
theorem md_M_act_471 : decode mc_M_act 471 = .ok (.getfield 75, 3) := by decide +kernel
theorem md_M_act_474 : decode mc_M_act 474 = .ok (.iload 5, 2) := by decide +kernel
theorem md_M_act_476 : decode mc_M_act 476 = .ok (.iaload, 1) := by decide +kernel
theorem md_M_act_477 : decode mc_M_act 477 = .ok (.iload_n 1, 1) := by decide +kernel
theorem md_M_act_478 : decode mc_M_act 478 = .ok (.if_icmp .ne 8, 3) := by decide +kernel
theorem md_M_act_481 : decode mc_M_act 481 = .ok (.bipush 6, 2) := by decide +kernel
theorem md_M_act_483 : decode mc_M_act 483 = .ok (.goto 4, 3) := by decide +kernel
theorem md_M_act_486 : decode mc_M_act 486 = .ok (.iconst 0, 1) := by decide +kernel
theorem md_M_act_487 : decode mc_M_act 487 = .ok (.istore 6, 2) := by decide +kernel
theorem md_M_act_489 : decode mc_M_act 489 = .ok (.aload_n 0, 1) := by decide +kernel
theorem md_M_act_490 : decode mc_M_act 490 = .ok (.getfield 75, 3) := by decide +kernel
theorem md_M_act_493 : decode mc_M_act 493 = .ok (.iload 5, 2) := by decide +kernel
theorem md_M_act_495 : decode mc_M_act 495 = .ok (.iload_n 1, 1) := by decide +kernel
theorem md_M_act_496 : decode mc_M_act 496 = .ok (.iastore, 1) := by decide +kernel
theorem md_M_act_497 : decode mc_M_act 497 = .ok (.goto 157, 3) := by decide +kernel
theorem md_M_act_500 : decode mc_M_act 500 = .ok (.iload_n 2, 1) := by decide +kernel
theorem md_M_act_501 : decode mc_M_act 501 = .ok (.bipush 9, 2) := by decide +kernel
theorem md_M_act_503 : decode mc_M_act 503 = .ok (.if_icmp .ne 36, 3) := by decide +kernel
theorem md_M_act_506 : decode mc_M_act 506 = .ok (.aload_n 0, 1) := by decide +kernel
theorem md_M_act_507 : decode mc_M_act 507 = .ok (.getfield 75, 3) := by decide +kernel
theorem md_M_act_510 : decode mc_M_act 510 = .ok (.iload 5, 2) := by decide +kernel
theorem md_M_act_512 : decode mc_M_act 512 = .ok (.iaload, 1) := by decide +kernel
theorem md_M_act_513 : decode mc_M_act 513 = .ok (.iload_n 1, 1) := by decide +kernel
theorem md_M_act_514 : decode mc_M_act 514 = .ok (.if_icmp .ne 7, 3) := by decide +kernel
theorem md_M_act_517 : decode mc_M_act 517 = .ok (.iconst 0, 1) := by decide +kernel
theorem md_M_act_518 : decode mc_M_act 518 = .ok (.goto 5, 3) := by decide +kernel
theorem md_M_act_521 : decode mc_M_act 521 = .ok (.bipush 6, 2) := by decide +kernel
theorem md_M_act_523 : decode mc_M_act 523 = .ok (.istore 6, 2) := by decide +kernel
theorem md_M_act_525 : decode mc_M_act 525 = .ok (.iload 6, 2) := by decide +kernel
theorem md_M_act_527 : decode mc_M_act 527 = .ok (.ifCond .ne 127, 3) := by decide +kernel
theorem md_M_act_530 : decode mc_M_act 530 = .ok (.aload_n 0, 1) := by decide +kernel
theorem md_M_act_531 : decode mc_M_act 531 = .ok (.iload 5, 2) := by decide +kernel
theorem md_M_act_533 : decode mc_M_act 533 = .ok (.invokevirtual 179, 3) := by decide +kernel
theorem md_M_act_536 : decode mc_M_act 536 = .ok (.goto 118, 3) := by decide +kernel
theorem md_M_act_539 : decode mc_M_act 539 = .ok (.iload_n 2, 1) := by decide +kernel
theorem md_M_act_540 : decode mc_M_act 540 = .ok (.bipush 10, 2) := by decide +kernel
theorem md_M_act_542 : decode mc_M_act 542 = .ok (.if_icmp .ne 13, 3) := by decide +kernel
theorem md_M_act_545 : decode mc_M_act 545 = .ok (.aload_n 0, 1) := by decide +kernel
theorem md_M_act_546 : decode mc_M_act 546 = .ok (.getfield 60, 3) := by decide +kernel
theorem md_M_act_549 : decode mc_M_act 549 = .ok (.iload_n 1, 1) := by decide +kernel
theorem md_M_act_550 : decode mc_M_act 550 = .ok (.iconst 1, 1) := by decide +kernel
theorem md_M_act_551 : decode mc_M_act 551 = .ok (.bastore, 1) := by decide +kernel
theorem md_M_act_552 : decode mc_M_act 552 = .ok (.goto 102, 3) := by decide +kernel
theorem md_M_act_555 : decode mc_M_act 555 = .ok (.iload_n 2, 1) := by decide +kernel
theorem md_M_act_556 : decode mc_M_act 556 = .ok (.bipush 12, 2) := by decide +kernel
theorem md_M_act_558 : decode mc_M_act 558 = .ok (.if_icmp .ne 55, 3) := by decide +kernel
theorem md_M_act_561 : decode mc_M_act 561 = .ok (.aload_n 0, 1) := by decide +kernel
theorem md_M_act_562 : decode mc_M_act 562 = .ok (.getfield 13, 3) := by decide +kernel
theorem md_M_act_565 : decode mc_M_act 565 = .ok (.iload_n 1, 1) := by decide +kernel
theorem md_M_act_566 : decode mc_M_act 566 = .ok (.iaload, 1) := by decide +kernel
theorem md_M_act_567 : decode mc_M_act 567 = .ok (.ifCond .ne 10, 3) := by decide +kernel
theorem md_M_act_570 : decode mc_M_act 570 = .ok (.aload_n 0, 1) := by decide +kernel
theorem md_M_act_571 : decode mc_M_act 571 = .ok (.getfield 176, 3) := by decide +kernel
theorem md_M_act_574 : decode mc_M_act 574 = .ok (.ifCond .le 8, 3) := by decide +kernel
theorem md_M_act_577 : decode mc_M_act 577 = .ok (.bipush 7, 2) := by decide +kernel
theorem md_M_act_579 : decode mc_M_act 579 = .ok (.goto 4, 3) := by decide +kernel
theorem md_M_act_582 : decode mc_M_act 582 = .ok (.iconst 0, 1) := by decide +kernel
theorem md_M_act_583 : decode mc_M_act 583 = .ok (.istore 6, 2) := by decide +kernel
theorem md_M_act_585 : decode mc_M_act 585 = .ok (.iload 6, 2) := by decide +kernel
theorem md_M_act_587 : decode mc_M_act 587 = .ok (.ifCond .ne 67, 3) := by decide +kernel
theorem md_M_act_590 : decode mc_M_act 590 = .ok (.aload_n 0, 1) := by decide +kernel
theorem md_M_act_591 : decode mc_M_act 591 = .ok (.iload_n 1, 1) := by decide +kernel
theorem md_M_act_592 : decode mc_M_act 592 = .ok (.putfield 176, 3) := by decide +kernel
theorem md_M_act_595 : decode mc_M_act 595 = .ok (.aload_n 0, 1) := by decide +kernel
theorem md_M_act_596 : decode mc_M_act 596 = .ok (.aload_n 0, 1) := by decide +kernel
theorem md_M_act_597 : decode mc_M_act 597 = .ok (.getfield 120, 3) := by decide +kernel
theorem md_M_act_600 : decode mc_M_act 600 = .ok (.lload_n 3, 1) := by decide +kernel
theorem md_M_act_601 : decode mc_M_act 601 = .ok (.ladd, 1) := by decide +kernel
theorem md_M_act_602 : decode mc_M_act 602 = .ok (.putfield 202, 3) := by decide +kernel
theorem md_M_act_605 : decode mc_M_act 605 = .ok (.aload_n 0, 1) := by decide +kernel
theorem md_M_act_606 : decode mc_M_act 606 = .ok (.iconst 0, 1) := by decide +kernel
theorem md_M_act_607 : decode mc_M_act 607 = .ok (.putfield 205, 3) := by decide +kernel
theorem md_M_act_610 : decode mc_M_act 610 = .ok (.goto 44, 3) := by decide +kernel
theorem md_M_act_613 : decode mc_M_act 613 = .ok (.aload_n 0, 1) := by decide +kernel
theorem md_M_act_614 : decode mc_M_act 614 = .ok (.getfield 13, 3) := by decide +kernel
theorem md_M_act_617 : decode mc_M_act 617 = .ok (.iload_n 1, 1) := by decide +kernel
theorem md_M_act_618 : decode mc_M_act 618 = .ok (.iaload, 1) := by decide +kernel
theorem md_M_act_619 : decode mc_M_act 619 = .ok (.ifCond .ne 10, 3) := by decide +kernel
theorem md_M_act_622 : decode mc_M_act 622 = .ok (.aload_n 0, 1) := by decide +kernel
theorem md_M_act_623 : decode mc_M_act 623 = .ok (.getfield 176, 3) := by decide +kernel
theorem md_M_act_626 : decode mc_M_act 626 = .ok (.ifCond .ne 8, 3) := by decide +kernel
theorem md_M_act_629 : decode mc_M_act 629 = .ok (.bipush 7, 2) := by decide +kernel
theorem md_M_act_631 : decode mc_M_act 631 = .ok (.goto 4, 3) := by decide +kernel
theorem md_M_act_634 : decode mc_M_act 634 = .ok (.iconst 0, 1) := by decide +kernel
theorem md_M_act_635 : decode mc_M_act 635 = .ok (.istore 6, 2) := by decide +kernel
theorem md_M_act_637 : decode mc_M_act 637 = .ok (.aload_n 0, 1) := by decide +kernel
theorem md_M_act_638 : decode mc_M_act 638 = .ok (.iload 6, 2) := by decide +kernel
theorem md_M_act_640 : decode mc_M_act 640 = .ok (.ifCond .ne 7, 3) := by decide +kernel
theorem md_M_act_643 : decode mc_M_act 643 = .ok (.iconst 0, 1) := by decide +kernel
theorem md_M_act_644 : decode mc_M_act 644 = .ok (.goto 7, 3) := by decide +kernel
theorem md_M_act_647 : decode mc_M_act 647 = .ok (.aload_n 0, 1) := by decide +kernel
theorem md_M_act_648 : decode mc_M_act 648 = .ok (.getfield 176, 3) := by decide +kernel
theorem md_M_act_651 : decode mc_M_act 651 = .ok (.putfield 176, 3) := by decide +kernel
theorem md_M_act_654 : decode mc_M_act 654 = .ok (.iload 6, 2) := by decide +kernel
theorem md_M_act_656 : decode mc_M_act 656 = .ok (.ifCond .le 10, 3) := by decide +kernel
theorem md_M_act_659 : decode mc_M_act 659 = .ok (.aload_n 0, 1) := by decide +kernel
theorem md_M_act_660 : decode mc_M_act 660 = .ok (.iload 6, 2) := by decide +kernel
theorem md_M_act_662 : decode mc_M_act 662 = .ok (.iload_n 1, 1) := by decide +kernel
theorem md_M_act_663 : decode mc_M_act 663 = .ok (.invokevirtual 165, 3) := by decide +kernel
theorem md_M_act_666 : decode mc_M_act 666 = .ok (.return_, 1) := by decide +kernel
theorem md_M_chain_0 : decode mc_M_chain 0 = .ok (.aload_n 0, 1) := by decide +kernel
theorem md_M_chain_1 : decode mc_M_chain 1 = .ok (.iload_n 2, 1) := by decide +kernel
theorem md_M_chain_2 : decode mc_M_chain 2 = .ok (.invokevirtual 140, 3) := by decide +kernel
theorem md_M_chain_5 : decode mc_M_chain 5 = .ok (.ifCond .eq 10, 3) := by decide +kernel
theorem md_M_chain_8 : decode mc_M_chain 8 = .ok (.aload_n 0, 1) := by decide +kernel
theorem md_M_chain_9 : decode mc_M_chain 9 = .ok (.bipush 8, 2) := by decide +kernel
theorem md_M_chain_11 : decode mc_M_chain 11 = .ok (.iload_n 1, 1) := by decide +kernel
theorem md_M_chain_12 : decode mc_M_chain 12 = .ok (.invokevirtual 165, 3) := by decide +kernel
theorem md_M_chain_15 : decode mc_M_chain 15 = .ok (.iload_n 2, 1) := by decide +kernel
theorem md_M_chain_16 : decode mc_M_chain 16 = .ok (.iload_n 1, 1) := by decide +kernel
theorem md_M_chain_17 : decode mc_M_chain 17 = .ok (.if_icmp .ne 11, 3) := by decide +kernel
theorem md_M_chain_20 : decode mc_M_chain 20 = .ok (.aload_n 0, 1) := by decide +kernel
theorem md_M_chain_21 : decode mc_M_chain 21 = .ok (.iload_n 1, 1) := by decide +kernel
theorem md_M_chain_22 : decode mc_M_chain 22 = .ok (.invokevirtual 182, 3) := by decide +kernel
theorem md_M_chain_25 : decode mc_M_chain 25 = .ok (.goto 8, 3) := by decide +kernel
theorem md_M_chain_28 : decode mc_M_chain 28 = .ok (.aload_n 0, 1) := by decide +kernel
theorem md_M_chain_29 : decode mc_M_chain 29 = .ok (.iload_n 1, 1) := by decide +kernel
theorem md_M_chain_30 : decode mc_M_chain 30 = .ok (.invokevirtual 191, 3) := by decide +kernel
theorem md_M_chain_33 : decode mc_M_chain 33 = .ok (.aload_n 0, 1) := by decide +kernel
theorem md_M_chain_34 : decode mc_M_chain 34 = .ok (.iload_n 2, 1) := by decide +kernel
theorem md_M_chain_35 : decode mc_M_chain 35 = .ok (.invokevirtual 140, 3) := by decide +kernel
theorem md_M_chain_38 : decode mc_M_chain 38 = .ok (.ifCond .ne 8, 3) := by decide +kernel
theorem md_M_chain_41 : decode mc_M_chain 41 = .ok (.aload_n 0, 1) := by decide +kernel
theorem md_M_chain_42 : decode mc_M_chain 42 = .ok (.iload_n 2, 1) := by decide +kernel
theorem md_M_chain_43 : decode mc_M_chain 43 = .ok (.invokevirtual 185, 3) := by decide +kernel
theorem md_M_chain_46 : decode mc_M_chain 46 = .ok (.return_, 1) := by decide +kernel
theorem md_M_height_0 : decode mc_M_height 0 = .ok (.aload_n 0, 1) := by decide +kernel
theorem md_M_height_1 : decode mc_M_height 1 = .ok (.getfield 7, 3) := by decide +kernel
theorem md_M_height_4 : decode mc_M_height 4 = .ok (.iload_n 1, 1) := by decide +kernel
theorem md_M_height_5 : decode mc_M_height 5 = .ok (.iaload, 1) := by decide +kernel
theorem md_M_height_6 : decode mc_M_height 6 = .ok (.istore_n 2, 1) := by decide +kernel
theorem md_M_height_7 : decode mc_M_height 7 = .ok (.iconst 1, 1) := by decide +kernel
theorem md_M_height_8 : decode mc_M_height 8 = .ok (.istore_n 3, 1) := by decide +kernel
theorem md_M_height_9 : decode mc_M_height 9 = .ok (.iload_n 3, 1) := by decide +kernel
theorem md_M_height_10 : decode mc_M_height 10 = .ok (.bipush 32, 2) := by decide +kernel
theorem md_M_height_12 : decode mc_M_height 12 = .ok (.if_icmp .gt 40, 3) := by decide +kernel
theorem md_M_height_15 : decode mc_M_height 15 = .ok (.aload_n 0, 1) := by decide +kernel
theorem md_M_height_16 : decode mc_M_height 16 = .ok (.getfield 66, 3) := by decide +kernel
theorem md_M_height_19 : decode mc_M_height 19 = .ok (.iload_n 3, 1) := by decide +kernel
theorem md_M_height_20 : decode mc_M_height 20 = .ok (.iaload, 1) := by decide +kernel
theorem md_M_height_21 : decode mc_M_height 21 = .ok (.iload_n 1, 1) := by decide +kernel
theorem md_M_height_22 : decode mc_M_height 22 = .ok (.if_icmp .ne 22, 3) := by decide +kernel
theorem md_M_height_25 : decode mc_M_height 25 = .ok (.aload_n 0, 1) := by decide +kernel
theorem md_M_height_26 : decode mc_M_height 26 = .ok (.getfield 72, 3) := by decide +kernel
theorem md_M_height_29 : decode mc_M_height 29 = .ok (.iload_n 3, 1) := by decide +kernel
theorem md_M_height_30 : decode mc_M_height 30 = .ok (.iaload, 1) := by decide +kernel
theorem md_M_height_31 : decode mc_M_height 31 = .ok (.iload_n 2, 1) := by decide +kernel
theorem md_M_height_32 : decode mc_M_height 32 = .ok (.if_icmp .le 12, 3) := by decide +kernel
theorem md_M_height_35 : decode mc_M_height 35 = .ok (.aload_n 0, 1) := by decide +kernel
theorem md_M_height_36 : decode mc_M_height 36 = .ok (.getfield 72, 3) := by decide +kernel
theorem md_M_height_39 : decode mc_M_height 39 = .ok (.iload_n 3, 1) := by decide +kernel
theorem md_M_height_40 : decode mc_M_height 40 = .ok (.iaload, 1) := by decide +kernel
theorem md_M_height_41 : decode mc_M_height 41 = .ok (.goto 4, 3) := by decide +kernel
theorem md_M_height_44 : decode mc_M_height 44 = .ok (.iload_n 2, 1) := by decide +kernel
theorem md_M_height_45 : decode mc_M_height 45 = .ok (.istore_n 2, 1) := by decide +kernel
theorem md_M_height_46 : decode mc_M_height 46 = .ok (.iinc 3 1, 3) := by decide +kernel
theorem md_M_height_49 : decode mc_M_height 49 = .ok (.goto (-40), 3) := by decide +kernel
theorem md_M_height_52 : decode mc_M_height 52 = .ok (.iload_n 2, 1) := by decide +kernel
theorem md_M_height_53 : decode mc_M_height 53 = .ok (.ireturn, 1) := by decide +kernel
theorem md_M_findCeilings_0 : decode mc_M_findCeilings 0 = .ok (.iconst 1, 1) := by decide +kernel
theorem md_M_findCeilings_1 : decode mc_M_findCeilings 1 = .ok (.istore_n 1, 1) := by decide +kernel
theorem md_M_findCeilings_2 : decode mc_M_findCeilings 2 = .ok (.iload_n 1, 1) := by decide +kernel
theorem md_M_findCeilings_3 : decode mc_M_findCeilings 3 = .ok (.bipush 32, 2) := by decide +kernel
theorem md_M_findCeilings_5 : decode mc_M_findCeilings 5 = .ok (.if_icmp .gt 16, 3) := by decide +kernel
theorem md_M_findCeilings_8 : decode mc_M_findCeilings 8 = .ok (.aload_n 0, 1) := by decide +kernel
theorem md_M_findCeilings_9 : decode mc_M_findCeilings 9 = .ok (.getfield 72, 3) := by decide +kernel
theorem md_M_findCeilings_12 : decode mc_M_findCeilings 12 = .ok (.iload_n 1, 1) := by decide +kernel
theorem md_M_findCeilings_13 : decode mc_M_findCeilings 13 = .ok (.iconst 0, 1) := by decide +kernel
theorem md_M_findCeilings_14 : decode mc_M_findCeilings 14 = .ok (.iastore, 1) := by decide +kernel
theorem md_M_findCeilings_15 : decode mc_M_findCeilings 15 = .ok (.iinc 1 1, 3) := by decide +kernel
theorem md_M_findCeilings_18 : decode mc_M_findCeilings 18 = .ok (.goto (-16), 3) := by decide +kernel
theorem md_M_findCeilings_21 : decode mc_M_findCeilings 21 = .ok (.iconst 0, 1) := by decide +kernel
theorem md_M_findCeilings_22 : decode mc_M_findCeilings 22 = .ok (.istore_n 1, 1) := by decide +kernel
theorem md_M_findCeilings_23 : decode mc_M_findCeilings 23 = .ok (.iload_n 1, 1) := by decide +kernel
theorem md_M_findCeilings_24 : decode mc_M_findCeilings 24 = .ok (.aload_n 0, 1) := by decide +kernel
theorem md_M_findCeilings_25 : decode mc_M_findCeilings 25 = .ok (.getfield 148, 3) := by decide +kernel
theorem md_M_findCeilings_28 : decode mc_M_findCeilings 28 = .ok (.if_icmp .ge 65, 3) := by decide +kernel
theorem md_M_findCeilings_31 : decode mc_M_findCeilings 31 = .ok (.aload_n 0, 1) := by decide +kernel
theorem md_M_findCeilings_32 : decode mc_M_findCeilings 32 = .ok (.getfield 32, 3) := by decide +kernel
theorem md_M_findCeilings_35 : decode mc_M_findCeilings 35 = .ok (.iload_n 1, 1) := by decide +kernel
theorem md_M_findCeilings_36 : decode mc_M_findCeilings 36 = .ok (.laload, 1) := by decide +kernel
theorem md_M_findCeilings_37 : decode mc_M_findCeilings 37 = .ok (.l2i, 1) := by decide +kernel
theorem md_M_findCeilings_38 : decode mc_M_findCeilings 38 = .ok (.istore_n 2, 1) := by decide +kernel
theorem md_M_findCeilings_39 : decode mc_M_findCeilings 39 = .ok (.aload_n 0, 1) := by decide +kernel
theorem md_M_findCeilings_40 : decode mc_M_findCeilings 40 = .ok (.getfield 29, 3) := by decide +kernel
theorem md_M_findCeilings_43 : decode mc_M_findCeilings 43 = .ok (.iload_n 1, 1) := by decide +kernel
theorem md_M_findCeilings_44 : decode mc_M_findCeilings 44 = .ok (.iaload, 1) := by decide +kernel
theorem md_M_findCeilings_45 : decode mc_M_findCeilings 45 = .ok (.bipush 6, 2) := by decide +kernel
theorem md_M_findCeilings_47 : decode mc_M_findCeilings 47 = .ok (.if_icmp .ne 40, 3) := by decide +kernel
theorem md_M_findCeilings_50 : decode mc_M_findCeilings 50 = .ok (.aload_n 0, 1) := by decide +kernel
theorem md_M_findCeilings_51 : decode mc_M_findCeilings 51 = .ok (.getfield 7, 3) := by decide +kernel
theorem md_M_findCeilings_54 : decode mc_M_findCeilings 54 = .ok (.aload_n 0, 1) := by decide +kernel
theorem md_M_findCeilings_55 : decode mc_M_findCeilings 55 = .ok (.getfield 26, 3) := by decide +kernel
theorem md_M_findCeilings_58 : decode mc_M_findCeilings 58 = .ok (.iload_n 1, 1) := by decide +kernel
theorem md_M_findCeilings_59 : decode mc_M_findCeilings 59 = .ok (.iaload, 1) := by decide +kernel
theorem md_M_findCeilings_60 : decode mc_M_findCeilings 60 = .ok (.iaload, 1) := by decide +kernel
theorem md_M_findCeilings_61 : decode mc_M_findCeilings 61 = .ok (.aload_n 0, 1) := by decide +kernel
theorem md_M_findCeilings_62 : decode mc_M_findCeilings 62 = .ok (.getfield 72, 3) := by decide +kernel
theorem md_M_findCeilings_65 : decode mc_M_findCeilings 65 = .ok (.iload_n 2, 1) := by decide +kernel
theorem md_M_findCeilings_66 : decode mc_M_findCeilings 66 = .ok (.iaload, 1) := by decide +kernel
theorem md_M_findCeilings_67 : decode mc_M_findCeilings 67 = .ok (.if_icmp .le 20, 3) := by decide +kernel
theorem md_M_findCeilings_70 : decode mc_M_findCeilings 70 = .ok (.aload_n 0, 1) := by decide +kernel
theorem md_M_findCeilings_71 : decode mc_M_findCeilings 71 = .ok (.getfield 72, 3) := by decide +kernel
theorem md_M_findCeilings_74 : decode mc_M_findCeilings 74 = .ok (.iload_n 2, 1) := by decide +kernel
theorem md_M_findCeilings_75 : decode mc_M_findCeilings 75 = .ok (.aload_n 0, 1) := by decide +kernel
theorem md_M_findCeilings_76 : decode mc_M_findCeilings 76 = .ok (.getfield 7, 3) := by decide +kernel
theorem md_M_findCeilings_79 : decode mc_M_findCeilings 79 = .ok (.aload_n 0, 1) := by decide +kernel
theorem md_M_findCeilings_80 : decode mc_M_findCeilings 80 = .ok (.getfield 26, 3) := by decide +kernel
theorem md_M_findCeilings_83 : decode mc_M_findCeilings 83 = .ok (.iload_n 1, 1) := by decide +kernel
theorem md_M_findCeilings_84 : decode mc_M_findCeilings 84 = .ok (.iaload, 1) := by decide +kernel
theorem md_M_findCeilings_85 : decode mc_M_findCeilings 85 = .ok (.iaload, 1) := by decide +kernel
theorem md_M_findCeilings_86 : decode mc_M_findCeilings 86 = .ok (.iastore, 1) := by decide +kernel
theorem md_M_findCeilings_87 : decode mc_M_findCeilings 87 = .ok (.iinc 1 1, 3) := by decide +kernel
theorem md_M_findCeilings_90 : decode mc_M_findCeilings 90 = .ok (.goto (-67), 3) := by decide +kernel
theorem md_M_findCeilings_93 : decode mc_M_findCeilings 93 = .ok (.return_, 1) := by decide +kernel
theorem md_M_runningOf_0 : decode mc_M_runningOf 0 = .ok (.iconst 0, 1) := by decide +kernel
theorem md_M_runningOf_1 : decode mc_M_runningOf 1 = .ok (.istore_n 2, 1) := by decide +kernel
theorem md_M_runningOf_2 : decode mc_M_runningOf 2 = .ok (.iconst 1, 1) := by decide +kernel
theorem md_M_runningOf_3 : decode mc_M_runningOf 3 = .ok (.istore_n 3, 1) := by decide +kernel
theorem md_M_runningOf_4 : decode mc_M_runningOf 4 = .ok (.iload_n 3, 1) := by decide +kernel
theorem md_M_runningOf_5 : decode mc_M_runningOf 5 = .ok (.aload_n 0, 1) := by decide +kernel
theorem md_M_runningOf_6 : decode mc_M_runningOf 6 = .ok (.getfield 117, 3) := by decide +kernel
theorem md_M_runningOf_9 : decode mc_M_runningOf 9 = .ok (.if_icmp .gt 35, 3) := by decide +kernel
theorem md_M_runningOf_12 : decode mc_M_runningOf 12 = .ok (.aload_n 0, 1) := by decide +kernel
theorem md_M_runningOf_13 : decode mc_M_runningOf 13 = .ok (.getfield 13, 3) := by decide +kernel
theorem md_M_runningOf_16 : decode mc_M_runningOf 16 = .ok (.iload_n 3, 1) := by decide +kernel
theorem md_M_runningOf_17 : decode mc_M_runningOf 17 = .ok (.iaload, 1) := by decide +kernel
theorem md_M_runningOf_18 : decode mc_M_runningOf 18 = .ok (.iload_n 1, 1) := by decide +kernel
theorem md_M_runningOf_19 : decode mc_M_runningOf 19 = .ok (.if_icmp .ne 17, 3) := by decide +kernel
theorem md_M_runningOf_22 : decode mc_M_runningOf 22 = .ok (.aload_n 0, 1) := by decide +kernel
theorem md_M_runningOf_23 : decode mc_M_runningOf 23 = .ok (.getfield 36, 3) := by decide +kernel
theorem md_M_runningOf_26 : decode mc_M_runningOf 26 = .ok (.iload_n 3, 1) := by decide +kernel
theorem md_M_runningOf_27 : decode mc_M_runningOf 27 = .ok (.iaload, 1) := by decide +kernel
theorem md_M_runningOf_28 : decode mc_M_runningOf 28 = .ok (.iconst 2, 1) := by decide +kernel
theorem md_M_runningOf_29 : decode mc_M_runningOf 29 = .ok (.if_icmp .ne 7, 3) := by decide +kernel
theorem md_M_runningOf_32 : decode mc_M_runningOf 32 = .ok (.iload_n 3, 1) := by decide +kernel
theorem md_M_runningOf_33 : decode mc_M_runningOf 33 = .ok (.goto 4, 3) := by decide +kernel
theorem md_M_runningOf_36 : decode mc_M_runningOf 36 = .ok (.iload_n 2, 1) := by decide +kernel
theorem md_M_runningOf_37 : decode mc_M_runningOf 37 = .ok (.istore_n 2, 1) := by decide +kernel
theorem md_M_runningOf_38 : decode mc_M_runningOf 38 = .ok (.iinc 3 1, 3) := by decide +kernel
theorem md_M_runningOf_41 : decode mc_M_runningOf 41 = .ok (.goto (-37), 3) := by decide +kernel
theorem md_M_runningOf_44 : decode mc_M_runningOf 44 = .ok (.iload_n 2, 1) := by decide +kernel
theorem md_M_runningOf_45 : decode mc_M_runningOf 45 = .ok (.ireturn, 1) := by decide +kernel
theorem md_M_choose_0 : decode mc_M_choose 0 = .ok (.aload_n 0, 1) := by decide +kernel
theorem md_M_choose_1 : decode mc_M_choose 1 = .ok (.iload_n 1, 1) := by decide +kernel
theorem md_M_choose_2 : decode mc_M_choose 2 = .ok (.invokevirtual 209, 3) := by decide +kernel
theorem md_M_choose_5 : decode mc_M_choose 5 = .ok (.istore_n 2, 1) := by decide +kernel
theorem md_M_choose_6 : decode mc_M_choose 6 = .ok (.iload_n 2, 1) := by decide +kernel
theorem md_M_choose_7 : decode mc_M_choose 7 = .ok (.ifCond .le 23, 3) := by decide +kernel
theorem md_M_choose_10 : decode mc_M_choose 10 = .ok (.aload_n 0, 1) := by decide +kernel
theorem md_M_choose_11 : decode mc_M_choose 11 = .ok (.getfield 23, 3) := by decide +kernel
theorem md_M_choose_14 : decode mc_M_choose 14 = .ok (.iload_n 2, 1) := by decide +kernel
theorem md_M_choose_15 : decode mc_M_choose 15 = .ok (.baload, 1) := by decide +kernel
theorem md_M_choose_16 : decode mc_M_choose 16 = .ok (.ifCond .ne 14, 3) := by decide +kernel
theorem md_M_choose_19 : decode mc_M_choose 19 = .ok (.aload_n 0, 1) := by decide +kernel
theorem md_M_choose_20 : decode mc_M_choose 20 = .ok (.getfield 60, 3) := by decide +kernel
theorem md_M_choose_23 : decode mc_M_choose 23 = .ok (.iload_n 2, 1) := by decide +kernel
theorem md_M_choose_24 : decode mc_M_choose 24 = .ok (.baload, 1) := by decide +kernel
theorem md_M_choose_25 : decode mc_M_choose 25 = .ok (.ifCond .ne 5, 3) := by decide +kernel
theorem md_M_choose_28 : decode mc_M_choose 28 = .ok (.iload_n 2, 1) := by decide +kernel
theorem md_M_choose_29 : decode mc_M_choose 29 = .ok (.ireturn, 1) := by decide +kernel
theorem md_M_choose_30 : decode mc_M_choose 30 = .ok (.iload_n 2, 1) := by decide +kernel
theorem md_M_choose_31 : decode mc_M_choose 31 = .ok (.istore_n 3, 1) := by decide +kernel
theorem md_M_choose_32 : decode mc_M_choose 32 = .ok (.iload_n 2, 1) := by decide +kernel
theorem md_M_choose_33 : decode mc_M_choose 33 = .ok (.ifCond .le 11, 3) := by decide +kernel
theorem md_M_choose_36 : decode mc_M_choose 36 = .ok (.aload_n 0, 1) := by decide +kernel
theorem md_M_choose_37 : decode mc_M_choose 37 = .ok (.iload_n 2, 1) := by decide +kernel
theorem md_M_choose_38 : decode mc_M_choose 38 = .ok (.invokevirtual 213, 3) := by decide +kernel
theorem md_M_choose_41 : decode mc_M_choose 41 = .ok (.goto 4, 3) := by decide +kernel
theorem md_M_choose_44 : decode mc_M_choose 44 = .ok (.iconst (-1), 1) := by decide +kernel
theorem md_M_choose_45 : decode mc_M_choose 45 = .ok (.istore 4, 2) := by decide +kernel
theorem md_M_choose_47 : decode mc_M_choose 47 = .ok (.iconst 1, 1) := by decide +kernel
theorem md_M_choose_48 : decode mc_M_choose 48 = .ok (.istore 5, 2) := by decide +kernel
theorem md_M_choose_50 : decode mc_M_choose 50 = .ok (.iload 5, 2) := by decide +kernel
theorem md_M_choose_52 : decode mc_M_choose 52 = .ok (.aload_n 0, 1) := by decide +kernel
theorem md_M_choose_53 : decode mc_M_choose 53 = .ok (.getfield 117, 3) := by decide +kernel
theorem md_M_choose_56 : decode mc_M_choose 56 = .ok (.if_icmp .gt 85, 3) := by decide +kernel
theorem md_M_choose_59 : decode mc_M_choose 59 = .ok (.aload_n 0, 1) := by decide +kernel
theorem md_M_choose_60 : decode mc_M_choose 60 = .ok (.getfield 13, 3) := by decide +kernel
theorem md_M_choose_63 : decode mc_M_choose 63 = .ok (.iload 5, 2) := by decide +kernel
theorem md_M_choose_65 : decode mc_M_choose 65 = .ok (.iaload, 1) := by decide +kernel
theorem md_M_choose_66 : decode mc_M_choose 66 = .ok (.iload_n 1, 1) := by decide +kernel
theorem md_M_choose_67 : decode mc_M_choose 67 = .ok (.if_icmp .ne 68, 3) := by decide +kernel
theorem md_M_choose_70 : decode mc_M_choose 70 = .ok (.aload_n 0, 1) := by decide +kernel
theorem md_M_choose_71 : decode mc_M_choose 71 = .ok (.getfield 36, 3) := by decide +kernel
theorem md_M_choose_74 : decode mc_M_choose 74 = .ok (.iload 5, 2) := by decide +kernel
theorem md_M_choose_76 : decode mc_M_choose 76 = .ok (.iaload, 1) := by decide +kernel
theorem md_M_choose_77 : decode mc_M_choose 77 = .ok (.iconst 1, 1) := by decide +kernel
theorem md_M_choose_78 : decode mc_M_choose 78 = .ok (.if_icmp .eq 6, 3) := by decide +kernel
theorem md_M_choose_81 : decode mc_M_choose 81 = .ok (.goto 54, 3) := by decide +kernel
theorem md_M_choose_84 : decode mc_M_choose 84 = .ok (.aload_n 0, 1) := by decide +kernel
theorem md_M_choose_85 : decode mc_M_choose 85 = .ok (.iload 5, 2) := by decide +kernel
theorem md_M_choose_87 : decode mc_M_choose 87 = .ok (.invokevirtual 213, 3) := by decide +kernel
theorem md_M_choose_90 : decode mc_M_choose 90 = .ok (.istore 6, 2) := by decide +kernel
theorem md_M_choose_92 : decode mc_M_choose 92 = .ok (.iload 6, 2) := by decide +kernel
theorem md_M_choose_94 : decode mc_M_choose 94 = .ok (.iload 4, 2) := by decide +kernel
theorem md_M_choose_96 : decode mc_M_choose 96 = .ok (.if_icmp .gt 32, 3) := by decide +kernel
theorem md_M_choose_99 : decode mc_M_choose 99 = .ok (.iload 6, 2) := by decide +kernel
theorem md_M_choose_101 : decode mc_M_choose 101 = .ok (.iload 4, 2) := by decide +kernel
theorem md_M_choose_103 : decode mc_M_choose 103 = .ok (.if_icmp .ne 32, 3) := by decide +kernel
theorem md_M_choose_106 : decode mc_M_choose 106 = .ok (.iload_n 3, 1) := by decide +kernel
theorem md_M_choose_107 : decode mc_M_choose 107 = .ok (.iload_n 2, 1) := by decide +kernel
theorem md_M_choose_108 : decode mc_M_choose 108 = .ok (.if_icmp .eq 27, 3) := by decide +kernel
theorem md_M_choose_111 : decode mc_M_choose 111 = .ok (.aload_n 0, 1) := by decide +kernel
theorem md_M_choose_112 : decode mc_M_choose 112 = .ok (.getfield 39, 3) := by decide +kernel
theorem md_M_choose_115 : decode mc_M_choose 115 = .ok (.iload 5, 2) := by decide +kernel
theorem md_M_choose_117 : decode mc_M_choose 117 = .ok (.laload, 1) := by decide +kernel
theorem md_M_choose_118 : decode mc_M_choose 118 = .ok (.aload_n 0, 1) := by decide +kernel
theorem md_M_choose_119 : decode mc_M_choose 119 = .ok (.getfield 39, 3) := by decide +kernel
theorem md_M_choose_122 : decode mc_M_choose 122 = .ok (.iload_n 3, 1) := by decide +kernel
theorem md_M_choose_123 : decode mc_M_choose 123 = .ok (.laload, 1) := by decide +kernel
theorem md_M_choose_124 : decode mc_M_choose 124 = .ok (.lcmp, 1) := by decide +kernel
theorem md_M_choose_125 : decode mc_M_choose 125 = .ok (.ifCond .ge 10, 3) := by decide +kernel
theorem md_M_choose_128 : decode mc_M_choose 128 = .ok (.iload 5, 2) := by decide +kernel
theorem md_M_choose_130 : decode mc_M_choose 130 = .ok (.istore_n 3, 1) := by decide +kernel
theorem md_M_choose_131 : decode mc_M_choose 131 = .ok (.iload 6, 2) := by decide +kernel
theorem md_M_choose_133 : decode mc_M_choose 133 = .ok (.istore 4, 2) := by decide +kernel
theorem md_M_choose_135 : decode mc_M_choose 135 = .ok (.iinc 5 1, 3) := by decide +kernel
theorem md_M_choose_138 : decode mc_M_choose 138 = .ok (.goto (-88), 3) := by decide +kernel
theorem md_M_choose_141 : decode mc_M_choose 141 = .ok (.iload_n 2, 1) := by decide +kernel
theorem md_M_choose_142 : decode mc_M_choose 142 = .ok (.ifCond .le 17, 3) := by decide +kernel
theorem md_M_choose_145 : decode mc_M_choose 145 = .ok (.aload_n 0, 1) := by decide +kernel
theorem md_M_choose_146 : decode mc_M_choose 146 = .ok (.getfield 60, 3) := by decide +kernel
theorem md_M_choose_149 : decode mc_M_choose 149 = .ok (.iload_n 2, 1) := by decide +kernel
theorem md_M_choose_150 : decode mc_M_choose 150 = .ok (.iconst 0, 1) := by decide +kernel
theorem md_M_choose_151 : decode mc_M_choose 151 = .ok (.bastore, 1) := by decide +kernel
theorem md_M_choose_152 : decode mc_M_choose 152 = .ok (.aload_n 0, 1) := by decide +kernel
theorem md_M_choose_153 : decode mc_M_choose 153 = .ok (.getfield 36, 3) := by decide +kernel
theorem md_M_choose_156 : decode mc_M_choose 156 = .ok (.iload_n 2, 1) := by decide +kernel
theorem md_M_choose_157 : decode mc_M_choose 157 = .ok (.iconst 1, 1) := by decide +kernel
theorem md_M_choose_158 : decode mc_M_choose 158 = .ok (.iastore, 1) := by decide +kernel
theorem md_M_choose_159 : decode mc_M_choose 159 = .ok (.iload_n 3, 1) := by decide +kernel
theorem md_M_choose_160 : decode mc_M_choose 160 = .ok (.ifCond .le 10, 3) := by decide +kernel
theorem md_M_choose_163 : decode mc_M_choose 163 = .ok (.aload_n 0, 1) := by decide +kernel
theorem md_M_choose_164 : decode mc_M_choose 164 = .ok (.getfield 36, 3) := by decide +kernel
theorem md_M_choose_167 : decode mc_M_choose 167 = .ok (.iload_n 3, 1) := by decide +kernel
theorem md_M_choose_168 : decode mc_M_choose 168 = .ok (.iconst 2, 1) := by decide +kernel
theorem md_M_choose_169 : decode mc_M_choose 169 = .ok (.iastore, 1) := by decide +kernel
theorem md_M_choose_170 : decode mc_M_choose 170 = .ok (.iload_n 3, 1) := by decide +kernel
theorem md_M_choose_171 : decode mc_M_choose 171 = .ok (.ireturn, 1) := by decide +kernel
theorem md_M_atHand_0 : decode mc_M_atHand 0 = .ok (.iconst (-1), 1) := by decide +kernel
theorem md_M_atHand_1 : decode mc_M_atHand 1 = .ok (.istore_n 1, 1) := by decide +kernel
theorem md_M_atHand_2 : decode mc_M_atHand 2 = .ok (.iconst 0, 1) := by decide +kernel
theorem md_M_atHand_3 : decode mc_M_atHand 3 = .ok (.istore_n 2, 1) := by decide +kernel
theorem md_M_atHand_4 : decode mc_M_atHand 4 = .ok (.iload_n 2, 1) := by decide +kernel
theorem md_M_atHand_5 : decode mc_M_atHand 5 = .ok (.aload_n 0, 1) := by decide +kernel
theorem md_M_atHand_6 : decode mc_M_atHand 6 = .ok (.getfield 156, 3) := by decide +kernel
theorem md_M_atHand_9 : decode mc_M_atHand 9 = .ok (.if_icmp .ge 83, 3) := by decide +kernel
theorem md_M_atHand_12 : decode mc_M_atHand 12 = .ok (.aload_n 0, 1) := by decide +kernel
theorem md_M_atHand_13 : decode mc_M_atHand 13 = .ok (.getfield 93, 3) := by decide +kernel
theorem md_M_atHand_16 : decode mc_M_atHand 16 = .ok (.iload_n 2, 1) := by decide +kernel
theorem md_M_atHand_17 : decode mc_M_atHand 17 = .ok (.laload, 1) := by decide +kernel
theorem md_M_atHand_18 : decode mc_M_atHand 18 = .ok (.aload_n 0, 1) := by decide +kernel
theorem md_M_atHand_19 : decode mc_M_atHand 19 = .ok (.getfield 120, 3) := by decide +kernel
theorem md_M_atHand_22 : decode mc_M_atHand 22 = .ok (.lcmp, 1) := by decide +kernel
theorem md_M_atHand_23 : decode mc_M_atHand 23 = .ok (.ifCond .gt 36, 3) := by decide +kernel
theorem md_M_atHand_26 : decode mc_M_atHand 26 = .ok (.aload_n 0, 1) := by decide +kernel
theorem md_M_atHand_27 : decode mc_M_atHand 27 = .ok (.getfield 96, 3) := by decide +kernel
theorem md_M_atHand_30 : decode mc_M_atHand 30 = .ok (.iload_n 2, 1) := by decide +kernel
theorem md_M_atHand_31 : decode mc_M_atHand 31 = .ok (.laload, 1) := by decide +kernel
theorem md_M_atHand_32 : decode mc_M_atHand 32 = .ok (.lconst 0, 1) := by decide +kernel
theorem md_M_atHand_33 : decode mc_M_atHand 33 = .ok (.lcmp, 1) := by decide +kernel
theorem md_M_atHand_34 : decode mc_M_atHand 34 = .ok (.ifCond .le 25, 3) := by decide +kernel
theorem md_M_atHand_37 : decode mc_M_atHand 37 = .ok (.aload_n 0, 1) := by decide +kernel
theorem md_M_atHand_38 : decode mc_M_atHand 38 = .ok (.getfield 90, 3) := by decide +kernel
theorem md_M_atHand_41 : decode mc_M_atHand 41 = .ok (.iload_n 2, 1) := by decide +kernel
theorem md_M_atHand_42 : decode mc_M_atHand 42 = .ok (.iaload, 1) := by decide +kernel
theorem md_M_atHand_43 : decode mc_M_atHand 43 = .ok (.bipush 7, 2) := by decide +kernel
theorem md_M_atHand_45 : decode mc_M_atHand 45 = .ok (.if_icmp .gt 10, 3) := by decide +kernel
theorem md_M_atHand_48 : decode mc_M_atHand 48 = .ok (.aload_n 0, 1) := by decide +kernel
theorem md_M_atHand_49 : decode mc_M_atHand 49 = .ok (.getfield 176, 3) := by decide +kernel
theorem md_M_atHand_52 : decode mc_M_atHand 52 = .ok (.ifCond .ne 7, 3) := by decide +kernel
theorem md_M_atHand_55 : decode mc_M_atHand 55 = .ok (.iconst 1, 1) := by decide +kernel
theorem md_M_atHand_56 : decode mc_M_atHand 56 = .ok (.goto 4, 3) := by decide +kernel
theorem md_M_atHand_59 : decode mc_M_atHand 59 = .ok (.iconst 0, 1) := by decide +kernel
theorem md_M_atHand_60 : decode mc_M_atHand 60 = .ok (.istore_n 3, 1) := by decide +kernel
theorem md_M_atHand_61 : decode mc_M_atHand 61 = .ok (.iload_n 3, 1) := by decide +kernel
theorem md_M_atHand_62 : decode mc_M_atHand 62 = .ok (.ifCond .eq 24, 3) := by decide +kernel
theorem md_M_atHand_65 : decode mc_M_atHand 65 = .ok (.iload_n 1, 1) := by decide +kernel
theorem md_M_atHand_66 : decode mc_M_atHand 66 = .ok (.ifCond .lt 18, 3) := by decide +kernel
theorem md_M_atHand_69 : decode mc_M_atHand 69 = .ok (.aload_n 0, 1) := by decide +kernel
theorem md_M_atHand_70 : decode mc_M_atHand 70 = .ok (.getfield 90, 3) := by decide +kernel
theorem md_M_atHand_73 : decode mc_M_atHand 73 = .ok (.iload_n 2, 1) := by decide +kernel
theorem md_M_atHand_74 : decode mc_M_atHand 74 = .ok (.iaload, 1) := by decide +kernel
theorem md_M_atHand_75 : decode mc_M_atHand 75 = .ok (.aload_n 0, 1) := by decide +kernel
theorem md_M_atHand_76 : decode mc_M_atHand 76 = .ok (.getfield 90, 3) := by decide +kernel
theorem md_M_atHand_79 : decode mc_M_atHand 79 = .ok (.iload_n 1, 1) := by decide +kernel
theorem md_M_atHand_80 : decode mc_M_atHand 80 = .ok (.iaload, 1) := by decide +kernel
theorem md_M_atHand_81 : decode mc_M_atHand 81 = .ok (.if_icmp .le 5, 3) := by decide +kernel
theorem md_M_atHand_84 : decode mc_M_atHand 84 = .ok (.iload_n 2, 1) := by decide +kernel
theorem md_M_atHand_85 : decode mc_M_atHand 85 = .ok (.istore_n 1, 1) := by decide +kernel
theorem md_M_atHand_86 : decode mc_M_atHand 86 = .ok (.iinc 2 1, 3) := by decide +kernel
theorem md_M_atHand_89 : decode mc_M_atHand 89 = .ok (.goto (-85), 3) := by decide +kernel
theorem md_M_atHand_92 : decode mc_M_atHand 92 = .ok (.iload_n 1, 1) := by decide +kernel
theorem md_M_atHand_93 : decode mc_M_atHand 93 = .ok (.ireturn, 1) := by decide +kernel
theorem md_M_step_0 : decode mc_M_step 0 = .ok (.iload_n 1, 1) := by decide +kernel
theorem md_M_step_1 : decode mc_M_step 1 = .ok (.ifCond .ne 12, 3) := by decide +kernel
theorem md_M_step_4 : decode mc_M_step 4 = .ok (.aload_n 0, 1) := by decide +kernel
theorem md_M_step_5 : decode mc_M_step 5 = .ok (.invokevirtual 216, 3) := by decide +kernel
theorem md_M_step_8 : decode mc_M_step 8 = .ok (.ifCond .lt 5, 3) := by decide +kernel
theorem md_M_step_11 : decode mc_M_step 11 = .ok (.iconst 0, 1) := by decide +kernel
theorem md_M_step_12 : decode mc_M_step 12 = .ok (.ireturn, 1) := by decide +kernel
theorem md_M_step_13 : decode mc_M_step 13 = .ok (.aload_n 0, 1) := by decide +kernel
theorem md_M_step_14 : decode mc_M_step 14 = .ok (.iload_n 1, 1) := by decide +kernel
theorem md_M_step_15 : decode mc_M_step 15 = .ok (.invokevirtual 220, 3) := by decide +kernel
theorem md_M_step_18 : decode mc_M_step 18 = .ok (.istore_n 2, 1) := by decide +kernel
theorem md_M_step_19 : decode mc_M_step 19 = .ok (.iload_n 2, 1) := by decide +kernel
theorem md_M_step_20 : decode mc_M_step 20 = .ok (.ifCond .eq 21, 3) := by decide +kernel
theorem md_M_step_23 : decode mc_M_step 23 = .ok (.aload_n 0, 1) := by decide +kernel
theorem md_M_step_24 : decode mc_M_step 24 = .ok (.getfield 51, 3) := by decide +kernel
theorem md_M_step_27 : decode mc_M_step 27 = .ok (.iload_n 2, 1) := by decide +kernel
theorem md_M_step_28 : decode mc_M_step 28 = .ok (.baload, 1) := by decide +kernel
theorem md_M_step_29 : decode mc_M_step 29 = .ok (.ifCond .ne 12, 3) := by decide +kernel
theorem md_M_step_32 : decode mc_M_step 32 = .ok (.aload_n 0, 1) := by decide +kernel
theorem md_M_step_33 : decode mc_M_step 33 = .ok (.getfield 78, 3) := by decide +kernel
theorem md_M_step_36 : decode mc_M_step 36 = .ok (.iload_n 2, 1) := by decide +kernel
theorem md_M_step_37 : decode mc_M_step 37 = .ok (.iaload, 1) := by decide +kernel
theorem md_M_step_38 : decode mc_M_step 38 = .ok (.ifCond .le 5, 3) := by decide +kernel
theorem md_M_step_41 : decode mc_M_step 41 = .ok (.iconst 0, 1) := by decide +kernel
theorem md_M_step_42 : decode mc_M_step 42 = .ok (.ireturn, 1) := by decide +kernel
theorem md_M_step_43 : decode mc_M_step 43 = .ok (.aload_n 0, 1) := by decide +kernel
theorem md_M_step_44 : decode mc_M_step 44 = .ok (.iload_n 2, 1) := by decide +kernel
theorem md_M_step_45 : decode mc_M_step 45 = .ok (.invokevirtual 223, 3) := by decide +kernel
theorem md_M_step_48 : decode mc_M_step 48 = .ok (.istore_n 3, 1) := by decide +kernel
theorem md_M_step_49 : decode mc_M_step 49 = .ok (.iload_n 3, 1) := by decide +kernel
theorem md_M_step_50 : decode mc_M_step 50 = .ok (.ifCond .lt 14, 3) := by decide +kernel
theorem md_M_step_53 : decode mc_M_step 53 = .ok (.aload_n 0, 1) := by decide +kernel
theorem md_M_step_54 : decode mc_M_step 54 = .ok (.getfield 29, 3) := by decide +kernel
theorem md_M_step_57 : decode mc_M_step 57 = .ok (.iload_n 3, 1) := by decide +kernel
theorem md_M_step_58 : decode mc_M_step 58 = .ok (.iaload, 1) := by decide +kernel
theorem md_M_step_59 : decode mc_M_step 59 = .ok (.ifCond .ne 5, 3) := by decide +kernel
theorem md_M_step_62 : decode mc_M_step 62 = .ok (.iconst 0, 1) := by decide +kernel
theorem md_M_step_63 : decode mc_M_step 63 = .ok (.ireturn, 1) := by decide +kernel
theorem md_M_step_64 : decode mc_M_step 64 = .ok (.iload_n 3, 1) := by decide +kernel
theorem md_M_step_65 : decode mc_M_step 65 = .ok (.ifCond .ge 11, 3) := by decide +kernel
theorem md_M_step_68 : decode mc_M_step 68 = .ok (.aload_n 0, 1) := by decide +kernel
theorem md_M_step_69 : decode mc_M_step 69 = .ok (.iload_n 2, 1) := by decide +kernel
theorem md_M_step_70 : decode mc_M_step 70 = .ok (.invokevirtual 191, 3) := by decide +kernel
theorem md_M_step_73 : decode mc_M_step 73 = .ok (.goto 20, 3) := by decide +kernel
theorem md_M_step_76 : decode mc_M_step 76 = .ok (.aload_n 0, 1) := by decide +kernel
theorem md_M_step_77 : decode mc_M_step 77 = .ok (.iload_n 2, 1) := by decide +kernel
theorem md_M_step_78 : decode mc_M_step 78 = .ok (.aload_n 0, 1) := by decide +kernel
theorem md_M_step_79 : decode mc_M_step 79 = .ok (.getfield 29, 3) := by decide +kernel
theorem md_M_step_82 : decode mc_M_step 82 = .ok (.iload_n 3, 1) := by decide +kernel
theorem md_M_step_83 : decode mc_M_step 83 = .ok (.iaload, 1) := by decide +kernel
theorem md_M_step_84 : decode mc_M_step 84 = .ok (.aload_n 0, 1) := by decide +kernel
theorem md_M_step_85 : decode mc_M_step 85 = .ok (.getfield 32, 3) := by decide +kernel
theorem md_M_step_88 : decode mc_M_step 88 = .ok (.iload_n 3, 1) := by decide +kernel
theorem md_M_step_89 : decode mc_M_step 89 = .ok (.laload, 1) := by decide +kernel
theorem md_M_step_90 : decode mc_M_step 90 = .ok (.invokevirtual 226, 3) := by decide +kernel
theorem md_M_step_93 : decode mc_M_step 93 = .ok (.iconst 1, 1) := by decide +kernel
theorem md_M_step_94 : decode mc_M_step 94 = .ok (.ireturn, 1) := by decide +kernel
theorem md_M_pass_0 : decode mc_M_pass 0 = .ok (.aload_n 0, 1) := by decide +kernel
theorem md_M_pass_1 : decode mc_M_pass 1 = .ok (.getfield 63, 3) := by decide +kernel
theorem md_M_pass_4 : decode mc_M_pass 4 = .ok (.iload_n 1, 1) := by decide +kernel
theorem md_M_pass_5 : decode mc_M_pass 5 = .ok (.dup2, 1) := by decide +kernel
theorem md_M_pass_6 : decode mc_M_pass 6 = .ok (.laload, 1) := by decide +kernel
theorem md_M_pass_7 : decode mc_M_pass 7 = .ok (.lconst 1, 1) := by decide +kernel
theorem md_M_pass_8 : decode mc_M_pass 8 = .ok (.ladd, 1) := by decide +kernel
theorem md_M_pass_9 : decode mc_M_pass 9 = .ok (.lastore, 1) := by decide +kernel
theorem md_M_pass_10 : decode mc_M_pass 10 = .ok (.aload_n 0, 1) := by decide +kernel
theorem md_M_pass_11 : decode mc_M_pass 11 = .ok (.getfield 78, 3) := by decide +kernel
theorem md_M_pass_14 : decode mc_M_pass 14 = .ok (.iload_n 1, 1) := by decide +kernel
theorem md_M_pass_15 : decode mc_M_pass 15 = .ok (.iaload, 1) := by decide +kernel
theorem md_M_pass_16 : decode mc_M_pass 16 = .ok (.ifCond .le 4, 3) := by decide +kernel
theorem md_M_pass_19 : decode mc_M_pass 19 = .ok (.return_, 1) := by decide +kernel
theorem md_M_pass_20 : decode mc_M_pass 20 = .ok (.aload_n 0, 1) := by decide +kernel
theorem md_M_pass_21 : decode mc_M_pass 21 = .ok (.getfield 51, 3) := by decide +kernel
theorem md_M_pass_24 : decode mc_M_pass 24 = .ok (.iload_n 1, 1) := by decide +kernel
theorem md_M_pass_25 : decode mc_M_pass 25 = .ok (.baload, 1) := by decide +kernel
theorem md_M_pass_26 : decode mc_M_pass 26 = .ok (.ifCond .eq 20, 3) := by decide +kernel
theorem md_M_pass_29 : decode mc_M_pass 29 = .ok (.aload_n 0, 1) := by decide +kernel
theorem md_M_pass_30 : decode mc_M_pass 30 = .ok (.getfield 51, 3) := by decide +kernel
theorem md_M_pass_33 : decode mc_M_pass 33 = .ok (.iload_n 1, 1) := by decide +kernel
theorem md_M_pass_34 : decode mc_M_pass 34 = .ok (.iconst 0, 1) := by decide +kernel
theorem md_M_pass_35 : decode mc_M_pass 35 = .ok (.bastore, 1) := by decide +kernel
theorem md_M_pass_36 : decode mc_M_pass 36 = .ok (.aload_n 0, 1) := by decide +kernel
theorem md_M_pass_37 : decode mc_M_pass 37 = .ok (.getfield 48, 3) := by decide +kernel
theorem md_M_pass_40 : decode mc_M_pass 40 = .ok (.iload_n 1, 1) := by decide +kernel
theorem md_M_pass_41 : decode mc_M_pass 41 = .ok (.ldc2_w 230, 3) := by decide +kernel
theorem md_M_pass_44 : decode mc_M_pass 44 = .ok (.lastore, 1) := by decide +kernel
theorem md_M_pass_45 : decode mc_M_pass 45 = .ok (.return_, 1) := by decide +kernel
theorem md_M_pass_46 : decode mc_M_pass 46 = .ok (.aload_n 0, 1) := by decide +kernel
theorem md_M_pass_47 : decode mc_M_pass 47 = .ok (.getfield 48, 3) := by decide +kernel
theorem md_M_pass_50 : decode mc_M_pass 50 = .ok (.iload_n 1, 1) := by decide +kernel
theorem md_M_pass_51 : decode mc_M_pass 51 = .ok (.laload, 1) := by decide +kernel
theorem md_M_pass_52 : decode mc_M_pass 52 = .ok (.lconst 0, 1) := by decide +kernel
theorem md_M_pass_53 : decode mc_M_pass 53 = .ok (.lcmp, 1) := by decide +kernel
theorem md_M_pass_54 : decode mc_M_pass 54 = .ok (.ifCond .ge 19, 3) := by decide +kernel
theorem md_M_pass_57 : decode mc_M_pass 57 = .ok (.aload_n 0, 1) := by decide +kernel
theorem md_M_pass_58 : decode mc_M_pass 58 = .ok (.getfield 48, 3) := by decide +kernel
theorem md_M_pass_61 : decode mc_M_pass 61 = .ok (.iload_n 1, 1) := by decide +kernel
theorem md_M_pass_62 : decode mc_M_pass 62 = .ok (.aload_n 0, 1) := by decide +kernel
theorem md_M_pass_63 : decode mc_M_pass 63 = .ok (.getfield 32, 3) := by decide +kernel
theorem md_M_pass_66 : decode mc_M_pass 66 = .ok (.aload_n 0, 1) := by decide +kernel
theorem md_M_pass_67 : decode mc_M_pass 67 = .ok (.iload_n 1, 1) := by decide +kernel
theorem md_M_pass_68 : decode mc_M_pass 68 = .ok (.invokevirtual 223, 3) := by decide +kernel
theorem md_M_pass_71 : decode mc_M_pass 71 = .ok (.laload, 1) := by decide +kernel
theorem md_M_pass_72 : decode mc_M_pass 72 = .ok (.lastore, 1) := by decide +kernel
theorem md_M_pass_73 : decode mc_M_pass 73 = .ok (.aload_n 0, 1) := by decide +kernel
theorem md_M_pass_74 : decode mc_M_pass 74 = .ok (.getfield 48, 3) := by decide +kernel
theorem md_M_pass_77 : decode mc_M_pass 77 = .ok (.iload_n 1, 1) := by decide +kernel
theorem md_M_pass_78 : decode mc_M_pass 78 = .ok (.dup2, 1) := by decide +kernel
theorem md_M_pass_79 : decode mc_M_pass 79 = .ok (.laload, 1) := by decide +kernel
theorem md_M_pass_80 : decode mc_M_pass 80 = .ok (.lconst 1, 1) := by decide +kernel
theorem md_M_pass_81 : decode mc_M_pass 81 = .ok (.lsub, 1) := by decide +kernel
theorem md_M_pass_82 : decode mc_M_pass 82 = .ok (.lastore, 1) := by decide +kernel
theorem md_M_pass_83 : decode mc_M_pass 83 = .ok (.aload_n 0, 1) := by decide +kernel
theorem md_M_pass_84 : decode mc_M_pass 84 = .ok (.getfield 48, 3) := by decide +kernel
theorem md_M_pass_87 : decode mc_M_pass 87 = .ok (.iload_n 1, 1) := by decide +kernel
theorem md_M_pass_88 : decode mc_M_pass 88 = .ok (.laload, 1) := by decide +kernel
theorem md_M_pass_89 : decode mc_M_pass 89 = .ok (.lconst 0, 1) := by decide +kernel
theorem md_M_pass_90 : decode mc_M_pass 90 = .ok (.lcmp, 1) := by decide +kernel
theorem md_M_pass_91 : decode mc_M_pass 91 = .ok (.ifCond .le 4, 3) := by decide +kernel
theorem md_M_pass_94 : decode mc_M_pass 94 = .ok (.return_, 1) := by decide +kernel
theorem md_M_pass_95 : decode mc_M_pass 95 = .ok (.aload_n 0, 1) := by decide +kernel
theorem md_M_pass_96 : decode mc_M_pass 96 = .ok (.getfield 48, 3) := by decide +kernel
theorem md_M_pass_99 : decode mc_M_pass 99 = .ok (.iload_n 1, 1) := by decide +kernel
theorem md_M_pass_100 : decode mc_M_pass 100 = .ok (.ldc2_w 230, 3) := by decide +kernel
theorem md_M_pass_103 : decode mc_M_pass 103 = .ok (.lastore, 1) := by decide +kernel
theorem md_M_pass_104 : decode mc_M_pass 104 = .ok (.aload_n 0, 1) := by decide +kernel
theorem md_M_pass_105 : decode mc_M_pass 105 = .ok (.getfield 45, 3) := by decide +kernel
theorem md_M_pass_108 : decode mc_M_pass 108 = .ok (.iload_n 1, 1) := by decide +kernel
theorem md_M_pass_109 : decode mc_M_pass 109 = .ok (.dup2, 1) := by decide +kernel
theorem md_M_pass_110 : decode mc_M_pass 110 = .ok (.iaload, 1) := by decide +kernel
theorem md_M_pass_111 : decode mc_M_pass 111 = .ok (.iconst 1, 1) := by decide +kernel
theorem md_M_pass_112 : decode mc_M_pass 112 = .ok (.iadd, 1) := by decide +kernel
theorem md_M_pass_113 : decode mc_M_pass 113 = .ok (.iastore, 1) := by decide +kernel
theorem md_M_pass_114 : decode mc_M_pass 114 = .ok (.return_, 1) := by decide +kernel
theorem md_M_microsecond_0 : decode mc_M_microsecond 0 = .ok (.iconst 0, 1) := by decide +kernel
theorem md_M_microsecond_1 : decode mc_M_microsecond 1 = .ok (.istore_n 1, 1) := by decide +kernel
theorem md_M_microsecond_2 : decode mc_M_microsecond 2 = .ok (.iload_n 1, 1) := by decide +kernel
theorem md_M_microsecond_3 : decode mc_M_microsecond 3 = .ok (.aload_n 0, 1) := by decide +kernel
theorem md_M_microsecond_4 : decode mc_M_microsecond 4 = .ok (.getfield 151, 3) := by decide +kernel
theorem md_M_microsecond_7 : decode mc_M_microsecond 7 = .ok (.if_icmp .ge 33, 3) := by decide +kernel
theorem md_M_microsecond_10 : decode mc_M_microsecond 10 = .ok (.aload_n 0, 1) := by decide +kernel
theorem md_M_microsecond_11 : decode mc_M_microsecond 11 = .ok (.getfield 87, 3) := by decide +kernel
theorem md_M_microsecond_14 : decode mc_M_microsecond 14 = .ok (.iload_n 1, 1) := by decide +kernel
theorem md_M_microsecond_15 : decode mc_M_microsecond 15 = .ok (.laload, 1) := by decide +kernel
theorem md_M_microsecond_16 : decode mc_M_microsecond 16 = .ok (.aload_n 0, 1) := by decide +kernel
theorem md_M_microsecond_17 : decode mc_M_microsecond 17 = .ok (.getfield 120, 3) := by decide +kernel
theorem md_M_microsecond_20 : decode mc_M_microsecond 20 = .ok (.lcmp, 1) := by decide +kernel
theorem md_M_microsecond_21 : decode mc_M_microsecond 21 = .ok (.ifCond .ne 13, 3) := by decide +kernel
theorem md_M_microsecond_24 : decode mc_M_microsecond 24 = .ok (.aload_n 0, 1) := by decide +kernel
theorem md_M_microsecond_25 : decode mc_M_microsecond 25 = .ok (.aload_n 0, 1) := by decide +kernel
theorem md_M_microsecond_26 : decode mc_M_microsecond 26 = .ok (.getfield 84, 3) := by decide +kernel
theorem md_M_microsecond_29 : decode mc_M_microsecond 29 = .ok (.iload_n 1, 1) := by decide +kernel
theorem md_M_microsecond_30 : decode mc_M_microsecond 30 = .ok (.iaload, 1) := by decide +kernel
theorem md_M_microsecond_31 : decode mc_M_microsecond 31 = .ok (.invokevirtual 185, 3) := by decide +kernel
theorem md_M_microsecond_34 : decode mc_M_microsecond 34 = .ok (.iinc 1 1, 3) := by decide +kernel
theorem md_M_microsecond_37 : decode mc_M_microsecond 37 = .ok (.goto (-35), 3) := by decide +kernel
theorem md_M_microsecond_40 : decode mc_M_microsecond 40 = .ok (.iconst 1, 1) := by decide +kernel
theorem md_M_microsecond_41 : decode mc_M_microsecond 41 = .ok (.istore_n 1, 1) := by decide +kernel
theorem md_M_microsecond_42 : decode mc_M_microsecond 42 = .ok (.iload_n 1, 1) := by decide +kernel
theorem md_M_microsecond_43 : decode mc_M_microsecond 43 = .ok (.ifCond .eq 37, 3) := by decide +kernel
theorem md_M_microsecond_46 : decode mc_M_microsecond 46 = .ok (.iconst 0, 1) := by decide +kernel
theorem md_M_microsecond_47 : decode mc_M_microsecond 47 = .ok (.istore_n 1, 1) := by decide +kernel
theorem md_M_microsecond_48 : decode mc_M_microsecond 48 = .ok (.iconst 0, 1) := by decide +kernel
theorem md_M_microsecond_49 : decode mc_M_microsecond 49 = .ok (.istore_n 2, 1) := by decide +kernel
theorem md_M_microsecond_50 : decode mc_M_microsecond 50 = .ok (.iload_n 2, 1) := by decide +kernel
theorem md_M_microsecond_51 : decode mc_M_microsecond 51 = .ok (.aload_n 0, 1) := by decide +kernel
theorem md_M_microsecond_52 : decode mc_M_microsecond 52 = .ok (.getfield 113, 3) := by decide +kernel
theorem md_M_microsecond_55 : decode mc_M_microsecond 55 = .ok (.if_icmp .ge 22, 3) := by decide +kernel
theorem md_M_microsecond_58 : decode mc_M_microsecond 58 = .ok (.aload_n 0, 1) := by decide +kernel
theorem md_M_microsecond_59 : decode mc_M_microsecond 59 = .ok (.iload_n 2, 1) := by decide +kernel
theorem md_M_microsecond_60 : decode mc_M_microsecond 60 = .ok (.invokevirtual 232, 3) := by decide +kernel
theorem md_M_microsecond_63 : decode mc_M_microsecond 63 = .ok (.ifCond .eq 8, 3) := by decide +kernel
theorem md_M_microsecond_66 : decode mc_M_microsecond 66 = .ok (.iconst 1, 1) := by decide +kernel
theorem md_M_microsecond_67 : decode mc_M_microsecond 67 = .ok (.istore_n 1, 1) := by decide +kernel
theorem md_M_microsecond_68 : decode mc_M_microsecond 68 = .ok (.goto (-10), 3) := by decide +kernel
theorem md_M_microsecond_71 : decode mc_M_microsecond 71 = .ok (.iinc 2 1, 3) := by decide +kernel
theorem md_M_microsecond_74 : decode mc_M_microsecond 74 = .ok (.goto (-24), 3) := by decide +kernel
theorem md_M_microsecond_77 : decode mc_M_microsecond 77 = .ok (.goto (-35), 3) := by decide +kernel
theorem md_M_microsecond_80 : decode mc_M_microsecond 80 = .ok (.aload_n 0, 1) := by decide +kernel
theorem md_M_microsecond_81 : decode mc_M_microsecond 81 = .ok (.getfield 176, 3) := by decide +kernel
theorem md_M_microsecond_84 : decode mc_M_microsecond 84 = .ok (.ifCond .le 37, 3) := by decide +kernel
theorem md_M_microsecond_87 : decode mc_M_microsecond 87 = .ok (.aload_n 0, 1) := by decide +kernel
theorem md_M_microsecond_88 : decode mc_M_microsecond 88 = .ok (.getfield 205, 3) := by decide +kernel
theorem md_M_microsecond_91 : decode mc_M_microsecond 91 = .ok (.ifCond .ne 30, 3) := by decide +kernel
theorem md_M_microsecond_94 : decode mc_M_microsecond 94 = .ok (.aload_n 0, 1) := by decide +kernel
theorem md_M_microsecond_95 : decode mc_M_microsecond 95 = .ok (.getfield 120, 3) := by decide +kernel
theorem md_M_microsecond_98 : decode mc_M_microsecond 98 = .ok (.aload_n 0, 1) := by decide +kernel
theorem md_M_microsecond_99 : decode mc_M_microsecond 99 = .ok (.getfield 202, 3) := by decide +kernel
theorem md_M_microsecond_102 : decode mc_M_microsecond 102 = .ok (.lcmp, 1) := by decide +kernel
theorem md_M_microsecond_103 : decode mc_M_microsecond 103 = .ok (.ifCond .lt 18, 3) := by decide +kernel
theorem md_M_microsecond_106 : decode mc_M_microsecond 106 = .ok (.aload_n 0, 1) := by decide +kernel
theorem md_M_microsecond_107 : decode mc_M_microsecond 107 = .ok (.bipush 9, 2) := by decide +kernel
theorem md_M_microsecond_109 : decode mc_M_microsecond 109 = .ok (.aload_n 0, 1) := by decide +kernel
theorem md_M_microsecond_110 : decode mc_M_microsecond 110 = .ok (.getfield 176, 3) := by decide +kernel
theorem md_M_microsecond_113 : decode mc_M_microsecond 113 = .ok (.invokevirtual 165, 3) := by decide +kernel
theorem md_M_microsecond_116 : decode mc_M_microsecond 116 = .ok (.aload_n 0, 1) := by decide +kernel
theorem md_M_microsecond_117 : decode mc_M_microsecond 117 = .ok (.iconst 1, 1) := by decide +kernel
theorem md_M_microsecond_118 : decode mc_M_microsecond 118 = .ok (.putfield 205, 3) := by decide +kernel
theorem md_M_microsecond_121 : decode mc_M_microsecond 121 = .ok (.iconst 0, 1) := by decide +kernel
theorem md_M_microsecond_122 : decode mc_M_microsecond 122 = .ok (.istore_n 2, 1) := by decide +kernel
theorem md_M_microsecond_123 : decode mc_M_microsecond 123 = .ok (.iconst 0, 1) := by decide +kernel
theorem md_M_microsecond_124 : decode mc_M_microsecond 124 = .ok (.istore_n 3, 1) := by decide +kernel
theorem md_M_microsecond_125 : decode mc_M_microsecond 125 = .ok (.iload_n 3, 1) := by decide +kernel
theorem md_M_microsecond_126 : decode mc_M_microsecond 126 = .ok (.aload_n 0, 1) := by decide +kernel
theorem md_M_microsecond_127 : decode mc_M_microsecond 127 = .ok (.getfield 113, 3) := by decide +kernel
theorem md_M_microsecond_130 : decode mc_M_microsecond 130 = .ok (.if_icmp .ge 148, 3) := by decide +kernel
theorem md_M_microsecond_133 : decode mc_M_microsecond 133 = .ok (.aload_n 0, 1) := by decide +kernel
theorem md_M_microsecond_134 : decode mc_M_microsecond 134 = .ok (.iload_n 3, 1) := by decide +kernel
theorem md_M_microsecond_135 : decode mc_M_microsecond 135 = .ok (.invokevirtual 220, 3) := by decide +kernel
theorem md_M_microsecond_138 : decode mc_M_microsecond 138 = .ok (.istore 4, 2) := by decide +kernel
theorem md_M_microsecond_140 : decode mc_M_microsecond 140 = .ok (.iload_n 3, 1) := by decide +kernel
theorem md_M_microsecond_141 : decode mc_M_microsecond 141 = .ok (.ifCond .ne 10, 3) := by decide +kernel
theorem md_M_microsecond_144 : decode mc_M_microsecond 144 = .ok (.aload_n 0, 1) := by decide +kernel
theorem md_M_microsecond_145 : decode mc_M_microsecond 145 = .ok (.invokevirtual 216, 3) := by decide +kernel
theorem md_M_microsecond_148 : decode mc_M_microsecond 148 = .ok (.goto 4, 3) := by decide +kernel
theorem md_M_microsecond_151 : decode mc_M_microsecond 151 = .ok (.iconst (-1), 1) := by decide +kernel
theorem md_M_microsecond_152 : decode mc_M_microsecond 152 = .ok (.istore 5, 2) := by decide +kernel
theorem md_M_microsecond_154 : decode mc_M_microsecond 154 = .ok (.iload 5, 2) := by decide +kernel
theorem md_M_microsecond_156 : decode mc_M_microsecond 156 = .ok (.ifCond .lt 17, 3) := by decide +kernel
theorem md_M_microsecond_159 : decode mc_M_microsecond 159 = .ok (.sipush 1000, 3) := by decide +kernel
theorem md_M_microsecond_162 : decode mc_M_microsecond 162 = .ok (.aload_n 0, 1) := by decide +kernel
theorem md_M_microsecond_163 : decode mc_M_microsecond 163 = .ok (.getfield 90, 3) := by decide +kernel
theorem md_M_microsecond_166 : decode mc_M_microsecond 166 = .ok (.iload 5, 2) := by decide +kernel
theorem md_M_microsecond_168 : decode mc_M_microsecond 168 = .ok (.iaload, 1) := by decide +kernel
theorem md_M_microsecond_169 : decode mc_M_microsecond 169 = .ok (.iadd, 1) := by decide +kernel
theorem md_M_microsecond_170 : decode mc_M_microsecond 170 = .ok (.goto 5, 3) := by decide +kernel
theorem md_M_microsecond_173 : decode mc_M_microsecond 173 = .ok (.iload 4, 2) := by decide +kernel
theorem md_M_microsecond_175 : decode mc_M_microsecond 175 = .ok (.istore 6, 2) := by decide +kernel
theorem md_M_microsecond_177 : decode mc_M_microsecond 177 = .ok (.aload_n 0, 1) := by decide +kernel
theorem md_M_microsecond_178 : decode mc_M_microsecond 178 = .ok (.getfield 109, 3) := by decide +kernel
theorem md_M_microsecond_181 : decode mc_M_microsecond 181 = .ok (.ldc 235, 2) := by decide +kernel
theorem md_M_microsecond_183 : decode mc_M_microsecond 183 = .ok (.iload_n 3, 1) := by decide +kernel
theorem md_M_microsecond_184 : decode mc_M_microsecond 184 = .ok (.imul, 1) := by decide +kernel
theorem md_M_microsecond_185 : decode mc_M_microsecond 185 = .ok (.aload_n 0, 1) := by decide +kernel
theorem md_M_microsecond_186 : decode mc_M_microsecond 186 = .ok (.getfield 120, 3) := by decide +kernel
theorem md_M_microsecond_189 : decode mc_M_microsecond 189 = .ok (.l2i, 1) := by decide +kernel
theorem md_M_microsecond_190 : decode mc_M_microsecond 190 = .ok (.iadd, 1) := by decide +kernel
theorem md_M_microsecond_191 : decode mc_M_microsecond 191 = .ok (.iload 6, 2) := by decide +kernel
theorem md_M_microsecond_193 : decode mc_M_microsecond 193 = .ok (.i2s, 1) := by decide +kernel
theorem md_M_microsecond_194 : decode mc_M_microsecond 194 = .ok (.sastore, 1) := by decide +kernel
theorem md_M_microsecond_195 : decode mc_M_microsecond 195 = .ok (.aload_n 0, 1) := by decide +kernel
theorem md_M_microsecond_196 : decode mc_M_microsecond 196 = .ok (.getfield 120, 3) := by decide +kernel
theorem md_M_microsecond_199 : decode mc_M_microsecond 199 = .ok (.lconst 0, 1) := by decide +kernel
theorem md_M_microsecond_200 : decode mc_M_microsecond 200 = .ok (.lcmp, 1) := by decide +kernel
theorem md_M_microsecond_201 : decode mc_M_microsecond 201 = .ok (.ifCond .le 23, 3) := by decide +kernel
theorem md_M_microsecond_204 : decode mc_M_microsecond 204 = .ok (.aload_n 0, 1) := by decide +kernel
theorem md_M_microsecond_205 : decode mc_M_microsecond 205 = .ok (.getfield 109, 3) := by decide +kernel
theorem md_M_microsecond_208 : decode mc_M_microsecond 208 = .ok (.ldc 235, 2) := by decide +kernel
theorem md_M_microsecond_210 : decode mc_M_microsecond 210 = .ok (.iload_n 3, 1) := by decide +kernel
theorem md_M_microsecond_211 : decode mc_M_microsecond 211 = .ok (.imul, 1) := by decide +kernel
theorem md_M_microsecond_212 : decode mc_M_microsecond 212 = .ok (.aload_n 0, 1) := by decide +kernel
theorem md_M_microsecond_213 : decode mc_M_microsecond 213 = .ok (.getfield 120, 3) := by decide +kernel
theorem md_M_microsecond_216 : decode mc_M_microsecond 216 = .ok (.l2i, 1) := by decide +kernel
theorem md_M_microsecond_217 : decode mc_M_microsecond 217 = .ok (.iadd, 1) := by decide +kernel
theorem md_M_microsecond_218 : decode mc_M_microsecond 218 = .ok (.iconst 1, 1) := by decide +kernel
theorem md_M_microsecond_219 : decode mc_M_microsecond 219 = .ok (.isub, 1) := by decide +kernel
theorem md_M_microsecond_220 : decode mc_M_microsecond 220 = .ok (.saload, 1) := by decide +kernel
theorem md_M_microsecond_221 : decode mc_M_microsecond 221 = .ok (.goto 4, 3) := by decide +kernel
theorem md_M_microsecond_224 : decode mc_M_microsecond 224 = .ok (.iconst 0, 1) := by decide +kernel
theorem md_M_microsecond_225 : decode mc_M_microsecond 225 = .ok (.istore 7, 2) := by decide +kernel
theorem md_M_microsecond_227 : decode mc_M_microsecond 227 = .ok (.iload 6, 2) := by decide +kernel
theorem md_M_microsecond_229 : decode mc_M_microsecond 229 = .ok (.iload 7, 2) := by decide +kernel
theorem md_M_microsecond_231 : decode mc_M_microsecond 231 = .ok (.if_icmp .eq 9, 3) := by decide +kernel
theorem md_M_microsecond_234 : decode mc_M_microsecond 234 = .ok (.iload_n 2, 1) := by decide +kernel
theorem md_M_microsecond_235 : decode mc_M_microsecond 235 = .ok (.iconst 1, 1) := by decide +kernel
theorem md_M_microsecond_236 : decode mc_M_microsecond 236 = .ok (.iadd, 1) := by decide +kernel
theorem md_M_microsecond_237 : decode mc_M_microsecond 237 = .ok (.goto 4, 3) := by decide +kernel
theorem md_M_microsecond_240 : decode mc_M_microsecond 240 = .ok (.iload_n 2, 1) := by decide +kernel
theorem md_M_microsecond_241 : decode mc_M_microsecond 241 = .ok (.istore_n 2, 1) := by decide +kernel
theorem md_M_microsecond_242 : decode mc_M_microsecond 242 = .ok (.iload 5, 2) := by decide +kernel
theorem md_M_microsecond_244 : decode mc_M_microsecond 244 = .ok (.ifCond .lt 17, 3) := by decide +kernel
theorem md_M_microsecond_247 : decode mc_M_microsecond 247 = .ok (.aload_n 0, 1) := by decide +kernel
theorem md_M_microsecond_248 : decode mc_M_microsecond 248 = .ok (.getfield 96, 3) := by decide +kernel
theorem md_M_microsecond_251 : decode mc_M_microsecond 251 = .ok (.iload 5, 2) := by decide +kernel
theorem md_M_microsecond_253 : decode mc_M_microsecond 253 = .ok (.dup2, 1) := by decide +kernel
theorem md_M_microsecond_254 : decode mc_M_microsecond 254 = .ok (.laload, 1) := by decide +kernel
theorem md_M_microsecond_255 : decode mc_M_microsecond 255 = .ok (.lconst 1, 1) := by decide +kernel
theorem md_M_microsecond_256 : decode mc_M_microsecond 256 = .ok (.lsub, 1) := by decide +kernel
theorem md_M_microsecond_257 : decode mc_M_microsecond 257 = .ok (.lastore, 1) := by decide +kernel
theorem md_M_microsecond_258 : decode mc_M_microsecond 258 = .ok (.goto 14, 3) := by decide +kernel
theorem md_M_microsecond_261 : decode mc_M_microsecond 261 = .ok (.iload 4, 2) := by decide +kernel
theorem md_M_microsecond_263 : decode mc_M_microsecond 263 = .ok (.ifCond .le 9, 3) := by decide +kernel
theorem md_M_microsecond_266 : decode mc_M_microsecond 266 = .ok (.aload_n 0, 1) := by decide +kernel
theorem md_M_microsecond_267 : decode mc_M_microsecond 267 = .ok (.iload 4, 2) := by decide +kernel
theorem md_M_microsecond_269 : decode mc_M_microsecond 269 = .ok (.invokevirtual 236, 3) := by decide +kernel
theorem md_M_microsecond_272 : decode mc_M_microsecond 272 = .ok (.iinc 3 1, 3) := by decide +kernel
theorem md_M_microsecond_275 : decode mc_M_microsecond 275 = .ok (.goto (-150), 3) := by decide +kernel
theorem md_M_microsecond_278 : decode mc_M_microsecond 278 = .ok (.aload_n 0, 1) := by decide +kernel
theorem md_M_microsecond_279 : decode mc_M_microsecond 279 = .ok (.dup, 1) := by decide +kernel
theorem md_M_microsecond_280 : decode mc_M_microsecond 280 = .ok (.getfield 120, 3) := by decide +kernel
theorem md_M_microsecond_283 : decode mc_M_microsecond 283 = .ok (.lconst 1, 1) := by decide +kernel
theorem md_M_microsecond_284 : decode mc_M_microsecond 284 = .ok (.ladd, 1) := by decide +kernel
theorem md_M_microsecond_285 : decode mc_M_microsecond 285 = .ok (.putfield 120, 3) := by decide +kernel
theorem md_M_microsecond_288 : decode mc_M_microsecond 288 = .ok (.iload_n 2, 1) := by decide +kernel
theorem md_M_microsecond_289 : decode mc_M_microsecond 289 = .ok (.ireturn, 1) := by decide +kernel
theorem md_M_run_0 : decode mc_M_run 0 = .ok (.lload_n 1, 1) := by decide +kernel
theorem md_M_run_1 : decode mc_M_run 1 = .ok (.lconst 0, 1) := by decide +kernel
theorem md_M_run_2 : decode mc_M_run 2 = .ok (.lcmp, 1) := by decide +kernel
theorem md_M_run_3 : decode mc_M_run 3 = .ok (.ifCond .lt 16, 3) := by decide +kernel
theorem md_M_run_6 : decode mc_M_run 6 = .ok (.lload_n 1, 1) := by decide +kernel
theorem md_M_run_7 : decode mc_M_run 7 = .ok (.ldc2_w 124, 3) := by decide +kernel
theorem md_M_run_10 : decode mc_M_run 10 = .ok (.aload_n 0, 1) := by decide +kernel
theorem md_M_run_11 : decode mc_M_run 11 = .ok (.getfield 120, 3) := by decide +kernel
theorem md_M_run_14 : decode mc_M_run 14 = .ok (.lsub, 1) := by decide +kernel
theorem md_M_run_15 : decode mc_M_run 15 = .ok (.lcmp, 1) := by decide +kernel
theorem md_M_run_16 : decode mc_M_run 16 = .ok (.ifCond .le 6, 3) := by decide +kernel
theorem md_M_run_19 : decode mc_M_run 19 = .ok (.bipush (-2), 2) := by decide +kernel
theorem md_M_run_21 : decode mc_M_run 21 = .ok (.ireturn, 1) := by decide +kernel
theorem md_M_run_22 : decode mc_M_run 22 = .ok (.aload_n 0, 1) := by decide +kernel
theorem md_M_run_23 : decode mc_M_run 23 = .ok (.invokevirtual 239, 3) := by decide +kernel
theorem md_M_run_26 : decode mc_M_run 26 = .ok (.iconst 0, 1) := by decide +kernel
theorem md_M_run_27 : decode mc_M_run 27 = .ok (.istore_n 3, 1) := by decide +kernel
theorem md_M_run_28 : decode mc_M_run 28 = .ok (.lconst 0, 1) := by decide +kernel
theorem md_M_run_29 : decode mc_M_run 29 = .ok (.lstore 4, 2) := by decide +kernel
theorem md_M_run_31 : decode mc_M_run 31 = .ok (.lload 4, 2) := by decide +kernel
theorem md_M_run_33 : decode mc_M_run 33 = .ok (.lload_n 1, 1) := by decide +kernel
theorem md_M_run_34 : decode mc_M_run 34 = .ok (.lcmp, 1) := by decide +kernel
theorem md_M_run_35 : decode mc_M_run 35 = .ok (.ifCond .ge 19, 3) := by decide +kernel
theorem md_M_run_38 : decode mc_M_run 38 = .ok (.iload_n 3, 1) := by decide +kernel
theorem md_M_run_39 : decode mc_M_run 39 = .ok (.aload_n 0, 1) := by decide +kernel
theorem md_M_run_40 : decode mc_M_run 40 = .ok (.invokevirtual 242, 3) := by decide +kernel
theorem md_M_run_43 : decode mc_M_run 43 = .ok (.iadd, 1) := by decide +kernel
theorem md_M_run_44 : decode mc_M_run 44 = .ok (.istore_n 3, 1) := by decide +kernel
theorem md_M_run_45 : decode mc_M_run 45 = .ok (.lload 4, 2) := by decide +kernel
theorem md_M_run_47 : decode mc_M_run 47 = .ok (.lconst 1, 1) := by decide +kernel
theorem md_M_run_48 : decode mc_M_run 48 = .ok (.ladd, 1) := by decide +kernel
theorem md_M_run_49 : decode mc_M_run 49 = .ok (.lstore 4, 2) := by decide +kernel
theorem md_M_run_51 : decode mc_M_run 51 = .ok (.goto (-20), 3) := by decide +kernel
theorem md_M_run_54 : decode mc_M_run 54 = .ok (.iload_n 3, 1) := by decide +kernel
theorem md_M_run_55 : decode mc_M_run 55 = .ok (.ireturn, 1) := by decide +kernel
theorem md_M_now_0 : decode mc_M_now 0 = .ok (.aload_n 0, 1) := by decide +kernel
theorem md_M_now_1 : decode mc_M_now 1 = .ok (.getfield 120, 3) := by decide +kernel
theorem md_M_now_4 : decode mc_M_now 4 = .ok (.lreturn, 1) := by decide +kernel
theorem md_M_running_0 : decode mc_M_running 0 = .ok (.iload_n 1, 1) := by decide +kernel
theorem md_M_running_1 : decode mc_M_running 1 = .ok (.ifCond .lt 11, 3) := by decide +kernel
theorem md_M_running_4 : decode mc_M_running 4 = .ok (.iload_n 1, 1) := by decide +kernel
theorem md_M_running_5 : decode mc_M_running 5 = .ok (.aload_n 0, 1) := by decide +kernel
theorem md_M_running_6 : decode mc_M_running 6 = .ok (.getfield 113, 3) := by decide +kernel
theorem md_M_running_9 : decode mc_M_running 9 = .ok (.if_icmp .lt 5, 3) := by decide +kernel
theorem md_M_running_12 : decode mc_M_running 12 = .ok (.iconst (-1), 1) := by decide +kernel
theorem md_M_running_13 : decode mc_M_running 13 = .ok (.ireturn, 1) := by decide +kernel
theorem md_M_running_14 : decode mc_M_running 14 = .ok (.lload_n 2, 1) := by decide +kernel
theorem md_M_running_15 : decode mc_M_running 15 = .ok (.lconst 0, 1) := by decide +kernel
theorem md_M_running_16 : decode mc_M_running 16 = .ok (.lcmp, 1) := by decide +kernel
theorem md_M_running_17 : decode mc_M_running 17 = .ok (.ifCond .lt 12, 3) := by decide +kernel
theorem md_M_running_20 : decode mc_M_running 20 = .ok (.lload_n 2, 1) := by decide +kernel
theorem md_M_running_21 : decode mc_M_running 21 = .ok (.aload_n 0, 1) := by decide +kernel
theorem md_M_running_22 : decode mc_M_running 22 = .ok (.getfield 120, 3) := by decide +kernel
theorem md_M_running_25 : decode mc_M_running 25 = .ok (.lcmp, 1) := by decide +kernel
theorem md_M_running_26 : decode mc_M_running 26 = .ok (.ifCond .lt 6, 3) := by decide +kernel
theorem md_M_running_29 : decode mc_M_running 29 = .ok (.bipush (-2), 2) := by decide +kernel
theorem md_M_running_31 : decode mc_M_running 31 = .ok (.ireturn, 1) := by decide +kernel
theorem md_M_running_32 : decode mc_M_running 32 = .ok (.aload_n 0, 1) := by decide +kernel
theorem md_M_running_33 : decode mc_M_running 33 = .ok (.getfield 109, 3) := by decide +kernel
theorem md_M_running_36 : decode mc_M_running 36 = .ok (.ldc 235, 2) := by decide +kernel
theorem md_M_running_38 : decode mc_M_running 38 = .ok (.iload_n 1, 1) := by decide +kernel
theorem md_M_running_39 : decode mc_M_running 39 = .ok (.imul, 1) := by decide +kernel
theorem md_M_running_40 : decode mc_M_running 40 = .ok (.lload_n 2, 1) := by decide +kernel
theorem md_M_running_41 : decode mc_M_running 41 = .ok (.l2i, 1) := by decide +kernel
theorem md_M_running_42 : decode mc_M_running 42 = .ok (.iadd, 1) := by decide +kernel
theorem md_M_running_43 : decode mc_M_running 43 = .ok (.saload, 1) := by decide +kernel
theorem md_M_running_44 : decode mc_M_running 44 = .ok (.ireturn, 1) := by decide +kernel
theorem md_M_used_0 : decode mc_M_used 0 = .ok (.aload_n 0, 1) := by decide +kernel
theorem md_M_used_1 : decode mc_M_used 1 = .ok (.iload_n 1, 1) := by decide +kernel
theorem md_M_used_2 : decode mc_M_used 2 = .ok (.invokevirtual 140, 3) := by decide +kernel
theorem md_M_used_5 : decode mc_M_used 5 = .ok (.ifCond .eq 9, 3) := by decide +kernel
theorem md_M_used_8 : decode mc_M_used 8 = .ok (.ldc2_w 230, 3) := by decide +kernel
theorem md_M_used_11 : decode mc_M_used 11 = .ok (.goto 9, 3) := by decide +kernel
theorem md_M_used_14 : decode mc_M_used 14 = .ok (.aload_n 0, 1) := by decide +kernel
theorem md_M_used_15 : decode mc_M_used 15 = .ok (.getfield 63, 3) := by decide +kernel
theorem md_M_used_18 : decode mc_M_used 18 = .ok (.iload_n 1, 1) := by decide +kernel
theorem md_M_used_19 : decode mc_M_used 19 = .ok (.laload, 1) := by decide +kernel
theorem md_M_used_20 : decode mc_M_used 20 = .ok (.lreturn, 1) := by decide +kernel
theorem md_M_state_0 : decode mc_M_state 0 = .ok (.aload_n 0, 1) := by decide +kernel
theorem md_M_state_1 : decode mc_M_state 1 = .ok (.iload_n 1, 1) := by decide +kernel
theorem md_M_state_2 : decode mc_M_state 2 = .ok (.invokevirtual 140, 3) := by decide +kernel
theorem md_M_state_5 : decode mc_M_state 5 = .ok (.ifCond .eq 7, 3) := by decide +kernel
theorem md_M_state_8 : decode mc_M_state 8 = .ok (.iconst (-1), 1) := by decide +kernel
theorem md_M_state_9 : decode mc_M_state 9 = .ok (.goto 9, 3) := by decide +kernel
theorem md_M_state_12 : decode mc_M_state 12 = .ok (.aload_n 0, 1) := by decide +kernel
theorem md_M_state_13 : decode mc_M_state 13 = .ok (.getfield 36, 3) := by decide +kernel
theorem md_M_state_16 : decode mc_M_state 16 = .ok (.iload_n 1, 1) := by decide +kernel
theorem md_M_state_17 : decode mc_M_state 17 = .ok (.iaload, 1) := by decide +kernel
theorem md_M_state_18 : decode mc_M_state 18 = .ok (.ireturn, 1) := by decide +kernel
theorem md_M_event_0 : decode mc_M_event 0 = .ok (.aload_n 0, 1) := by decide +kernel
theorem md_M_event_1 : decode mc_M_event 1 = .ok (.iload_n 1, 1) := by decide +kernel
theorem md_M_event_2 : decode mc_M_event 2 = .ok (.invokevirtual 140, 3) := by decide +kernel
theorem md_M_event_5 : decode mc_M_event 5 = .ok (.ifCond .eq 5, 3) := by decide +kernel
theorem md_M_event_8 : decode mc_M_event 8 = .ok (.iconst (-1), 1) := by decide +kernel
theorem md_M_event_9 : decode mc_M_event 9 = .ok (.ireturn, 1) := by decide +kernel
theorem md_M_event_10 : decode mc_M_event 10 = .ok (.iload_n 2, 1) := by decide +kernel
theorem md_M_event_11 : decode mc_M_event 11 = .ok (.iconst 1, 1) := by decide +kernel
theorem md_M_event_12 : decode mc_M_event 12 = .ok (.if_icmp .lt 9, 3) := by decide +kernel
theorem md_M_event_15 : decode mc_M_event 15 = .ok (.iload_n 2, 1) := by decide +kernel
theorem md_M_event_16 : decode mc_M_event 16 = .ok (.ldc 245, 2) := by decide +kernel
theorem md_M_event_18 : decode mc_M_event 18 = .ok (.if_icmp .le 6, 3) := by decide +kernel
theorem md_M_event_21 : decode mc_M_event 21 = .ok (.bipush (-2), 2) := by decide +kernel
theorem md_M_event_23 : decode mc_M_event 23 = .ok (.ireturn, 1) := by decide +kernel
theorem md_M_event_24 : decode mc_M_event 24 = .ok (.aload_n 0, 1) := by decide +kernel
theorem md_M_event_25 : decode mc_M_event 25 = .ok (.iload_n 1, 1) := by decide +kernel
theorem md_M_event_26 : decode mc_M_event 26 = .ok (.iload_n 2, 1) := by decide +kernel
theorem md_M_event_27 : decode mc_M_event 27 = .ok (.invokevirtual 198, 3) := by decide +kernel
theorem md_M_event_30 : decode mc_M_event 30 = .ok (.ifCond .eq 7, 3) := by decide +kernel
theorem md_M_event_33 : decode mc_M_event 33 = .ok (.iconst 1, 1) := by decide +kernel
theorem md_M_event_34 : decode mc_M_event 34 = .ok (.goto 5, 3) := by decide +kernel
theorem md_M_event_37 : decode mc_M_event 37 = .ok (.bipush (-3), 2) := by decide +kernel
theorem md_M_event_39 : decode mc_M_event 39 = .ok (.ireturn, 1) := by decide +kernel
theorem md_M_events_0 : decode mc_M_events 0 = .ok (.aload_n 0, 1) := by decide +kernel
theorem md_M_events_1 : decode mc_M_events 1 = .ok (.iload_n 1, 1) := by decide +kernel
theorem md_M_events_2 : decode mc_M_events 2 = .ok (.invokevirtual 140, 3) := by decide +kernel
theorem md_M_events_5 : decode mc_M_events 5 = .ok (.ifCond .eq 7, 3) := by decide +kernel
theorem md_M_events_8 : decode mc_M_events 8 = .ok (.iconst (-1), 1) := by decide +kernel
theorem md_M_events_9 : decode mc_M_events 9 = .ok (.goto 9, 3) := by decide +kernel
theorem md_M_events_12 : decode mc_M_events 12 = .ok (.aload_n 0, 1) := by decide +kernel
theorem md_M_events_13 : decode mc_M_events 13 = .ok (.getfield 54, 3) := by decide +kernel
theorem md_M_events_16 : decode mc_M_events 16 = .ok (.iload_n 1, 1) := by decide +kernel
theorem md_M_events_17 : decode mc_M_events 17 = .ok (.iaload, 1) := by decide +kernel
theorem md_M_events_18 : decode mc_M_events 18 = .ok (.ireturn, 1) := by decide +kernel
theorem md_M_code_0 : decode mc_M_code 0 = .ok (.iload_n 1, 1) := by decide +kernel
theorem md_M_code_1 : decode mc_M_code 1 = .ok (.iconst (-1), 1) := by decide +kernel
theorem md_M_code_2 : decode mc_M_code 2 = .ok (.if_icmp .ne 12, 3) := by decide +kernel
theorem md_M_code_5 : decode mc_M_code 5 = .ok (.iload_n 2, 1) := by decide +kernel
theorem md_M_code_6 : decode mc_M_code 6 = .ok (.ifCond .ne 8, 3) := by decide +kernel
theorem md_M_code_9 : decode mc_M_code 9 = .ok (.aload_n 0, 1) := by decide +kernel
theorem md_M_code_10 : decode mc_M_code 10 = .ok (.getfield 159, 3) := by decide +kernel
theorem md_M_code_13 : decode mc_M_code 13 = .ok (.ireturn, 1) := by decide +kernel
theorem md_M_code_14 : decode mc_M_code 14 = .ok (.iload_n 1, 1) := by decide +kernel
theorem md_M_code_15 : decode mc_M_code 15 = .ok (.ifCond .lt 18, 3) := by decide +kernel
theorem md_M_code_18 : decode mc_M_code 18 = .ok (.iload_n 1, 1) := by decide +kernel
theorem md_M_code_19 : decode mc_M_code 19 = .ok (.aload_n 0, 1) := by decide +kernel
theorem md_M_code_20 : decode mc_M_code 20 = .ok (.getfield 159, 3) := by decide +kernel
theorem md_M_code_23 : decode mc_M_code 23 = .ok (.if_icmp .ge 10, 3) := by decide +kernel
theorem md_M_code_26 : decode mc_M_code 26 = .ok (.iload_n 1, 1) := by decide +kernel
theorem md_M_code_27 : decode mc_M_code 27 = .ok (.sipush 999, 3) := by decide +kernel
theorem md_M_code_30 : decode mc_M_code 30 = .ok (.if_icmp .le 5, 3) := by decide +kernel
theorem md_M_code_33 : decode mc_M_code 33 = .ok (.iconst (-1), 1) := by decide +kernel
theorem md_M_code_34 : decode mc_M_code 34 = .ok (.ireturn, 1) := by decide +kernel
theorem md_M_code_35 : decode mc_M_code 35 = .ok (.iload_n 2, 1) := by decide +kernel
theorem md_M_code_36 : decode mc_M_code 36 = .ok (.ifCond .lt 8, 3) := by decide +kernel
theorem md_M_code_39 : decode mc_M_code 39 = .ok (.iload_n 2, 1) := by decide +kernel
theorem md_M_code_40 : decode mc_M_code 40 = .ok (.iconst 2, 1) := by decide +kernel
theorem md_M_code_41 : decode mc_M_code 41 = .ok (.if_icmp .le 6, 3) := by decide +kernel
theorem md_M_code_44 : decode mc_M_code 44 = .ok (.bipush (-2), 2) := by decide +kernel
theorem md_M_code_46 : decode mc_M_code 46 = .ok (.ireturn, 1) := by decide +kernel
theorem md_M_code_47 : decode mc_M_code 47 = .ok (.iload_n 2, 1) := by decide +kernel
theorem md_M_code_48 : decode mc_M_code 48 = .ok (.ifCond .ne 12, 3) := by decide +kernel
theorem md_M_code_51 : decode mc_M_code 51 = .ok (.aload_n 0, 1) := by decide +kernel
theorem md_M_code_52 : decode mc_M_code 52 = .ok (.getfield 99, 3) := by decide +kernel
theorem md_M_code_55 : decode mc_M_code 55 = .ok (.iload_n 1, 1) := by decide +kernel
theorem md_M_code_56 : decode mc_M_code 56 = .ok (.iaload, 1) := by decide +kernel
theorem md_M_code_57 : decode mc_M_code 57 = .ok (.goto 24, 3) := by decide +kernel
theorem md_M_code_60 : decode mc_M_code 60 = .ok (.iload_n 2, 1) := by decide +kernel
theorem md_M_code_61 : decode mc_M_code 61 = .ok (.iconst 1, 1) := by decide +kernel
theorem md_M_code_62 : decode mc_M_code 62 = .ok (.if_icmp .ne 12, 3) := by decide +kernel
theorem md_M_code_65 : decode mc_M_code 65 = .ok (.aload_n 0, 1) := by decide +kernel
theorem md_M_code_66 : decode mc_M_code 66 = .ok (.getfield 102, 3) := by decide +kernel
theorem md_M_code_69 : decode mc_M_code 69 = .ok (.iload_n 1, 1) := by decide +kernel
theorem md_M_code_70 : decode mc_M_code 70 = .ok (.iaload, 1) := by decide +kernel
theorem md_M_code_71 : decode mc_M_code 71 = .ok (.goto 10, 3) := by decide +kernel
theorem md_M_code_74 : decode mc_M_code 74 = .ok (.aload_n 0, 1) := by decide +kernel
theorem md_M_code_75 : decode mc_M_code 75 = .ok (.getfield 105, 3) := by decide +kernel
theorem md_M_code_78 : decode mc_M_code 78 = .ok (.iload_n 1, 1) := by decide +kernel
theorem md_M_code_79 : decode mc_M_code 79 = .ok (.laload, 1) := by decide +kernel
theorem md_M_code_80 : decode mc_M_code 80 = .ok (.l2i, 1) := by decide +kernel
theorem md_M_code_81 : decode mc_M_code 81 = .ok (.ireturn, 1) := by decide +kernel
theorem md_M_isSwitch_0 : decode mc_M_isSwitch 0 = .ok (.aload_n 0, 1) := by decide +kernel
theorem md_M_isSwitch_1 : decode mc_M_isSwitch 1 = .ok (.getfield 109, 3) := by decide +kernel
theorem md_M_isSwitch_4 : decode mc_M_isSwitch 4 = .ok (.ldc 235, 2) := by decide +kernel
theorem md_M_isSwitch_6 : decode mc_M_isSwitch 6 = .ok (.iload_n 1, 1) := by decide +kernel
theorem md_M_isSwitch_7 : decode mc_M_isSwitch 7 = .ok (.imul, 1) := by decide +kernel
theorem md_M_isSwitch_8 : decode mc_M_isSwitch 8 = .ok (.iload_n 2, 1) := by decide +kernel
theorem md_M_isSwitch_9 : decode mc_M_isSwitch 9 = .ok (.iadd, 1) := by decide +kernel
theorem md_M_isSwitch_10 : decode mc_M_isSwitch 10 = .ok (.saload, 1) := by decide +kernel
theorem md_M_isSwitch_11 : decode mc_M_isSwitch 11 = .ok (.iload_n 2, 1) := by decide +kernel
theorem md_M_isSwitch_12 : decode mc_M_isSwitch 12 = .ok (.ifCond .ne 7, 3) := by decide +kernel
theorem md_M_isSwitch_15 : decode mc_M_isSwitch 15 = .ok (.iconst 0, 1) := by decide +kernel
theorem md_M_isSwitch_16 : decode mc_M_isSwitch 16 = .ok (.goto 16, 3) := by decide +kernel
theorem md_M_isSwitch_19 : decode mc_M_isSwitch 19 = .ok (.aload_n 0, 1) := by decide +kernel
theorem md_M_isSwitch_20 : decode mc_M_isSwitch 20 = .ok (.getfield 109, 3) := by decide +kernel
theorem md_M_isSwitch_23 : decode mc_M_isSwitch 23 = .ok (.ldc 235, 2) := by decide +kernel
theorem md_M_isSwitch_25 : decode mc_M_isSwitch 25 = .ok (.iload_n 1, 1) := by decide +kernel
theorem md_M_isSwitch_26 : decode mc_M_isSwitch 26 = .ok (.imul, 1) := by decide +kernel
theorem md_M_isSwitch_27 : decode mc_M_isSwitch 27 = .ok (.iload_n 2, 1) := by decide +kernel
theorem md_M_isSwitch_28 : decode mc_M_isSwitch 28 = .ok (.iadd, 1) := by decide +kernel
theorem md_M_isSwitch_29 : decode mc_M_isSwitch 29 = .ok (.iconst 1, 1) := by decide +kernel
theorem md_M_isSwitch_30 : decode mc_M_isSwitch 30 = .ok (.isub, 1) := by decide +kernel
theorem md_M_isSwitch_31 : decode mc_M_isSwitch 31 = .ok (.saload, 1) := by decide +kernel
theorem md_M_isSwitch_32 : decode mc_M_isSwitch 32 = .ok (.if_icmp .eq 7, 3) := by decide +kernel
theorem md_M_isSwitch_35 : decode mc_M_isSwitch 35 = .ok (.iconst 1, 1) := by decide +kernel
theorem md_M_isSwitch_36 : decode mc_M_isSwitch 36 = .ok (.goto 4, 3) := by decide +kernel
theorem md_M_isSwitch_39 : decode mc_M_isSwitch 39 = .ok (.iconst 0, 1) := by decide +kernel
theorem md_M_isSwitch_40 : decode mc_M_isSwitch 40 = .ok (.ireturn, 1) := by decide +kernel
theorem md_M_order_0 : decode mc_M_order 0 = .ok (.iconst 0, 1) := by decide +kernel
theorem md_M_order_1 : decode mc_M_order 1 = .ok (.istore_n 3, 1) := by decide +kernel
theorem md_M_order_2 : decode mc_M_order 2 = .ok (.iconst (-1), 1) := by decide +kernel
theorem md_M_order_3 : decode mc_M_order 3 = .ok (.istore 4, 2) := by decide +kernel
theorem md_M_order_5 : decode mc_M_order 5 = .ok (.iconst 0, 1) := by decide +kernel
theorem md_M_order_6 : decode mc_M_order 6 = .ok (.istore 5, 2) := by decide +kernel
theorem md_M_order_8 : decode mc_M_order 8 = .ok (.iload 5, 2) := by decide +kernel
theorem md_M_order_10 : decode mc_M_order 10 = .ok (.i2l, 1) := by decide +kernel
theorem md_M_order_11 : decode mc_M_order 11 = .ok (.aload_n 0, 1) := by decide +kernel
theorem md_M_order_12 : decode mc_M_order 12 = .ok (.getfield 120, 3) := by decide +kernel
theorem md_M_order_15 : decode mc_M_order 15 = .ok (.lcmp, 1) := by decide +kernel
theorem md_M_order_16 : decode mc_M_order 16 = .ok (.ifCond .ge 64, 3) := by decide +kernel
theorem md_M_order_19 : decode mc_M_order 19 = .ok (.iconst 0, 1) := by decide +kernel
theorem md_M_order_20 : decode mc_M_order 20 = .ok (.istore 6, 2) := by decide +kernel
theorem md_M_order_22 : decode mc_M_order 22 = .ok (.iload 6, 2) := by decide +kernel
theorem md_M_order_24 : decode mc_M_order 24 = .ok (.aload_n 0, 1) := by decide +kernel
theorem md_M_order_25 : decode mc_M_order 25 = .ok (.getfield 113, 3) := by decide +kernel
theorem md_M_order_28 : decode mc_M_order 28 = .ok (.if_icmp .ge 46, 3) := by decide +kernel
theorem md_M_order_31 : decode mc_M_order 31 = .ok (.aload_n 0, 1) := by decide +kernel
theorem md_M_order_32 : decode mc_M_order 32 = .ok (.iload 6, 2) := by decide +kernel
theorem md_M_order_34 : decode mc_M_order 34 = .ok (.iload 5, 2) := by decide +kernel
theorem md_M_order_36 : decode mc_M_order 36 = .ok (.invokevirtual 246, 3) := by decide +kernel
theorem md_M_order_39 : decode mc_M_order 39 = .ok (.ifCond .ne 6, 3) := by decide +kernel
theorem md_M_order_42 : decode mc_M_order 42 = .ok (.goto 26, 3) := by decide +kernel
theorem md_M_order_45 : decode mc_M_order 45 = .ok (.iload_n 3, 1) := by decide +kernel
theorem md_M_order_46 : decode mc_M_order 46 = .ok (.iload_n 1, 1) := by decide +kernel
theorem md_M_order_47 : decode mc_M_order 47 = .ok (.if_icmp .ne 14, 3) := by decide +kernel
theorem md_M_order_50 : decode mc_M_order 50 = .ok (.bipush 8, 2) := by decide +kernel
theorem md_M_order_52 : decode mc_M_order 52 = .ok (.iload 5, 2) := by decide +kernel
theorem md_M_order_54 : decode mc_M_order 54 = .ok (.imul, 1) := by decide +kernel
theorem md_M_order_55 : decode mc_M_order 55 = .ok (.iload 6, 2) := by decide +kernel
theorem md_M_order_57 : decode mc_M_order 57 = .ok (.iadd, 1) := by decide +kernel
theorem md_M_order_58 : decode mc_M_order 58 = .ok (.goto 5, 3) := by decide +kernel
theorem md_M_order_61 : decode mc_M_order 61 = .ok (.iload 4, 2) := by decide +kernel
theorem md_M_order_63 : decode mc_M_order 63 = .ok (.istore 4, 2) := by decide +kernel
theorem md_M_order_65 : decode mc_M_order 65 = .ok (.iinc 3 1, 3) := by decide +kernel
theorem md_M_order_68 : decode mc_M_order 68 = .ok (.iinc 6 1, 3) := by decide +kernel
theorem md_M_order_71 : decode mc_M_order 71 = .ok (.goto (-49), 3) := by decide +kernel
theorem md_M_order_74 : decode mc_M_order 74 = .ok (.iinc 5 1, 3) := by decide +kernel
theorem md_M_order_77 : decode mc_M_order 77 = .ok (.goto (-69), 3) := by decide +kernel
theorem md_M_order_80 : decode mc_M_order 80 = .ok (.iload_n 1, 1) := by decide +kernel
theorem md_M_order_81 : decode mc_M_order 81 = .ok (.iconst (-1), 1) := by decide +kernel
theorem md_M_order_82 : decode mc_M_order 82 = .ok (.if_icmp .ne 9, 3) := by decide +kernel
theorem md_M_order_85 : decode mc_M_order 85 = .ok (.iload_n 2, 1) := by decide +kernel
theorem md_M_order_86 : decode mc_M_order 86 = .ok (.ifCond .ne 5, 3) := by decide +kernel
theorem md_M_order_89 : decode mc_M_order 89 = .ok (.iload_n 3, 1) := by decide +kernel
theorem md_M_order_90 : decode mc_M_order 90 = .ok (.ireturn, 1) := by decide +kernel
theorem md_M_order_91 : decode mc_M_order 91 = .ok (.iload 4, 2) := by decide +kernel
theorem md_M_order_93 : decode mc_M_order 93 = .ok (.ifCond .ge 5, 3) := by decide +kernel
theorem md_M_order_96 : decode mc_M_order 96 = .ok (.iconst (-1), 1) := by decide +kernel
theorem md_M_order_97 : decode mc_M_order 97 = .ok (.ireturn, 1) := by decide +kernel
theorem md_M_order_98 : decode mc_M_order 98 = .ok (.iload_n 2, 1) := by decide +kernel
theorem md_M_order_99 : decode mc_M_order 99 = .ok (.ifCond .lt 8, 3) := by decide +kernel
theorem md_M_order_102 : decode mc_M_order 102 = .ok (.iload_n 2, 1) := by decide +kernel
theorem md_M_order_103 : decode mc_M_order 103 = .ok (.iconst 2, 1) := by decide +kernel
theorem md_M_order_104 : decode mc_M_order 104 = .ok (.if_icmp .le 6, 3) := by decide +kernel
theorem md_M_order_107 : decode mc_M_order 107 = .ok (.bipush (-2), 2) := by decide +kernel
theorem md_M_order_109 : decode mc_M_order 109 = .ok (.ireturn, 1) := by decide +kernel
theorem md_M_order_110 : decode mc_M_order 110 = .ok (.iload_n 2, 1) := by decide +kernel
theorem md_M_order_111 : decode mc_M_order 111 = .ok (.ifCond .ne 11, 3) := by decide +kernel
theorem md_M_order_114 : decode mc_M_order 114 = .ok (.iload 4, 2) := by decide +kernel
theorem md_M_order_116 : decode mc_M_order 116 = .ok (.bipush 8, 2) := by decide +kernel
theorem md_M_order_118 : decode mc_M_order 118 = .ok (.idiv, 1) := by decide +kernel
theorem md_M_order_119 : decode mc_M_order 119 = .ok (.goto 35, 3) := by decide +kernel
theorem md_M_order_122 : decode mc_M_order 122 = .ok (.iload_n 2, 1) := by decide +kernel
theorem md_M_order_123 : decode mc_M_order 123 = .ok (.iconst 1, 1) := by decide +kernel
theorem md_M_order_124 : decode mc_M_order 124 = .ok (.if_icmp .ne 11, 3) := by decide +kernel
theorem md_M_order_127 : decode mc_M_order 127 = .ok (.iload 4, 2) := by decide +kernel
theorem md_M_order_129 : decode mc_M_order 129 = .ok (.bipush 8, 2) := by decide +kernel
theorem md_M_order_131 : decode mc_M_order 131 = .ok (.irem, 1) := by decide +kernel
theorem md_M_order_132 : decode mc_M_order 132 = .ok (.goto 22, 3) := by decide +kernel
theorem md_M_order_135 : decode mc_M_order 135 = .ok (.aload_n 0, 1) := by decide +kernel
theorem md_M_order_136 : decode mc_M_order 136 = .ok (.getfield 109, 3) := by decide +kernel
theorem md_M_order_139 : decode mc_M_order 139 = .ok (.ldc 235, 2) := by decide +kernel
theorem md_M_order_141 : decode mc_M_order 141 = .ok (.iload 4, 2) := by decide +kernel
theorem md_M_order_143 : decode mc_M_order 143 = .ok (.bipush 8, 2) := by decide +kernel
theorem md_M_order_145 : decode mc_M_order 145 = .ok (.irem, 1) := by decide +kernel
theorem md_M_order_146 : decode mc_M_order 146 = .ok (.imul, 1) := by decide +kernel
theorem md_M_order_147 : decode mc_M_order 147 = .ok (.iload 4, 2) := by decide +kernel
theorem md_M_order_149 : decode mc_M_order 149 = .ok (.bipush 8, 2) := by decide +kernel
theorem md_M_order_151 : decode mc_M_order 151 = .ok (.idiv, 1) := by decide +kernel
theorem md_M_order_152 : decode mc_M_order 152 = .ok (.iadd, 1) := by decide +kernel
theorem md_M_order_153 : decode mc_M_order 153 = .ok (.saload, 1) := by decide +kernel
theorem md_M_order_154 : decode mc_M_order 154 = .ok (.ireturn, 1) := by decide +kernel
theorem md_M_spin_0 : decode mc_M_spin 0 = .ok (.iload_n 1, 1) := by decide +kernel
theorem md_M_spin_1 : decode mc_M_spin 1 = .ok (.ifCond .lt 11, 3) := by decide +kernel
theorem md_M_spin_4 : decode mc_M_spin 4 = .ok (.iload_n 1, 1) := by decide +kernel
theorem md_M_spin_5 : decode mc_M_spin 5 = .ok (.aload_n 0, 1) := by decide +kernel
theorem md_M_spin_6 : decode mc_M_spin 6 = .ok (.getfield 113, 3) := by decide +kernel
theorem md_M_spin_9 : decode mc_M_spin 9 = .ok (.if_icmp .lt 7, 3) := by decide +kernel
theorem md_M_spin_12 : decode mc_M_spin 12 = .ok (.sipush (-1000), 3) := by decide +kernel
theorem md_M_spin_15 : decode mc_M_spin 15 = .ok (.ireturn, 1) := by decide +kernel
theorem md_M_spin_16 : decode mc_M_spin 16 = .ok (.iload_n 2, 1) := by decide +kernel
theorem md_M_spin_17 : decode mc_M_spin 17 = .ok (.iconst 1, 1) := by decide +kernel
theorem md_M_spin_18 : decode mc_M_spin 18 = .ok (.if_icmp .lt 9, 3) := by decide +kernel
theorem md_M_spin_21 : decode mc_M_spin 21 = .ok (.iload_n 2, 1) := by decide +kernel
theorem md_M_spin_22 : decode mc_M_spin 22 = .ok (.bipush 16, 2) := by decide +kernel
theorem md_M_spin_24 : decode mc_M_spin 24 = .ok (.if_icmp .le 7, 3) := by decide +kernel
theorem md_M_spin_27 : decode mc_M_spin 27 = .ok (.sipush (-2000), 3) := by decide +kernel
theorem md_M_spin_30 : decode mc_M_spin 30 = .ok (.ireturn, 1) := by decide +kernel
theorem md_M_spin_31 : decode mc_M_spin 31 = .ok (.aload_n 0, 1) := by decide +kernel
theorem md_M_spin_32 : decode mc_M_spin 32 = .ok (.getfield 75, 3) := by decide +kernel
theorem md_M_spin_35 : decode mc_M_spin 35 = .ok (.iload_n 2, 1) := by decide +kernel
theorem md_M_spin_36 : decode mc_M_spin 36 = .ok (.iaload, 1) := by decide +kernel
theorem md_M_spin_37 : decode mc_M_spin 37 = .ok (.ifCond .le 25, 3) := by decide +kernel
theorem md_M_spin_40 : decode mc_M_spin 40 = .ok (.aload_n 0, 1) := by decide +kernel
theorem md_M_spin_41 : decode mc_M_spin 41 = .ok (.getfield 13, 3) := by decide +kernel
theorem md_M_spin_44 : decode mc_M_spin 44 = .ok (.aload_n 0, 1) := by decide +kernel
theorem md_M_spin_45 : decode mc_M_spin 45 = .ok (.getfield 75, 3) := by decide +kernel
theorem md_M_spin_48 : decode mc_M_spin 48 = .ok (.iload_n 2, 1) := by decide +kernel
theorem md_M_spin_49 : decode mc_M_spin 49 = .ok (.iaload, 1) := by decide +kernel
theorem md_M_spin_50 : decode mc_M_spin 50 = .ok (.iaload, 1) := by decide +kernel
theorem md_M_spin_51 : decode mc_M_spin 51 = .ok (.iload_n 1, 1) := by decide +kernel
theorem md_M_spin_52 : decode mc_M_spin 52 = .ok (.if_icmp .ne 10, 3) := by decide +kernel
theorem md_M_spin_55 : decode mc_M_spin 55 = .ok (.aload_n 0, 1) := by decide +kernel
theorem md_M_spin_56 : decode mc_M_spin 56 = .ok (.getfield 75, 3) := by decide +kernel
theorem md_M_spin_59 : decode mc_M_spin 59 = .ok (.iload_n 2, 1) := by decide +kernel
theorem md_M_spin_60 : decode mc_M_spin 60 = .ok (.iaload, 1) := by decide +kernel
theorem md_M_spin_61 : decode mc_M_spin 61 = .ok (.ireturn, 1) := by decide +kernel
theorem md_M_spin_62 : decode mc_M_spin 62 = .ok (.iconst 0, 1) := by decide +kernel
theorem md_M_spin_63 : decode mc_M_spin 63 = .ok (.istore_n 3, 1) := by decide +kernel
theorem md_M_spin_64 : decode mc_M_spin 64 = .ok (.iconst 1, 1) := by decide +kernel
theorem md_M_spin_65 : decode mc_M_spin 65 = .ok (.istore 4, 2) := by decide +kernel
theorem md_M_spin_67 : decode mc_M_spin 67 = .ok (.iload 4, 2) := by decide +kernel
theorem md_M_spin_69 : decode mc_M_spin 69 = .ok (.aload_n 0, 1) := by decide +kernel
theorem md_M_spin_70 : decode mc_M_spin 70 = .ok (.getfield 117, 3) := by decide +kernel
theorem md_M_spin_73 : decode mc_M_spin 73 = .ok (.if_icmp .gt 55, 3) := by decide +kernel
theorem md_M_spin_76 : decode mc_M_spin 76 = .ok (.aload_n 0, 1) := by decide +kernel
theorem md_M_spin_77 : decode mc_M_spin 77 = .ok (.getfield 13, 3) := by decide +kernel
theorem md_M_spin_80 : decode mc_M_spin 80 = .ok (.iload 4, 2) := by decide +kernel
theorem md_M_spin_82 : decode mc_M_spin 82 = .ok (.iaload, 1) := by decide +kernel
theorem md_M_spin_83 : decode mc_M_spin 83 = .ok (.iload_n 1, 1) := by decide +kernel
theorem md_M_spin_84 : decode mc_M_spin 84 = .ok (.if_icmp .ne 38, 3) := by decide +kernel
theorem md_M_spin_87 : decode mc_M_spin 87 = .ok (.aload_n 0, 1) := by decide +kernel
theorem md_M_spin_88 : decode mc_M_spin 88 = .ok (.getfield 78, 3) := by decide +kernel
theorem md_M_spin_91 : decode mc_M_spin 91 = .ok (.iload 4, 2) := by decide +kernel
theorem md_M_spin_93 : decode mc_M_spin 93 = .ok (.iaload, 1) := by decide +kernel
theorem md_M_spin_94 : decode mc_M_spin 94 = .ok (.iload_n 2, 1) := by decide +kernel
theorem md_M_spin_95 : decode mc_M_spin 95 = .ok (.if_icmp .ne 27, 3) := by decide +kernel
theorem md_M_spin_98 : decode mc_M_spin 98 = .ok (.iload_n 3, 1) := by decide +kernel
theorem md_M_spin_99 : decode mc_M_spin 99 = .ok (.ifCond .eq 20, 3) := by decide +kernel
theorem md_M_spin_102 : decode mc_M_spin 102 = .ok (.aload_n 0, 1) := by decide +kernel
theorem md_M_spin_103 : decode mc_M_spin 103 = .ok (.getfield 81, 3) := by decide +kernel
theorem md_M_spin_106 : decode mc_M_spin 106 = .ok (.iload 4, 2) := by decide +kernel
theorem md_M_spin_108 : decode mc_M_spin 108 = .ok (.laload, 1) := by decide +kernel
theorem md_M_spin_109 : decode mc_M_spin 109 = .ok (.aload_n 0, 1) := by decide +kernel
theorem md_M_spin_110 : decode mc_M_spin 110 = .ok (.getfield 81, 3) := by decide +kernel
theorem md_M_spin_113 : decode mc_M_spin 113 = .ok (.iload_n 3, 1) := by decide +kernel
theorem md_M_spin_114 : decode mc_M_spin 114 = .ok (.laload, 1) := by decide +kernel
theorem md_M_spin_115 : decode mc_M_spin 115 = .ok (.lcmp, 1) := by decide +kernel
theorem md_M_spin_116 : decode mc_M_spin 116 = .ok (.ifCond .ge 6, 3) := by decide +kernel
theorem md_M_spin_119 : decode mc_M_spin 119 = .ok (.iload 4, 2) := by decide +kernel
theorem md_M_spin_121 : decode mc_M_spin 121 = .ok (.istore_n 3, 1) := by decide +kernel
theorem md_M_spin_122 : decode mc_M_spin 122 = .ok (.iinc 4 1, 3) := by decide +kernel
theorem md_M_spin_125 : decode mc_M_spin 125 = .ok (.goto (-58), 3) := by decide +kernel
theorem md_M_spin_128 : decode mc_M_spin 128 = .ok (.iload_n 3, 1) := by decide +kernel
theorem md_M_spin_129 : decode mc_M_spin 129 = .ok (.ineg, 1) := by decide +kernel
theorem md_M_spin_130 : decode mc_M_spin 130 = .ok (.ireturn, 1) := by decide +kernel
theorem md_M_holder_0 : decode mc_M_holder 0 = .ok (.iload_n 1, 1) := by decide +kernel
theorem md_M_holder_1 : decode mc_M_holder 1 = .ok (.iconst 1, 1) := by decide +kernel
theorem md_M_holder_2 : decode mc_M_holder 2 = .ok (.if_icmp .lt 9, 3) := by decide +kernel
theorem md_M_holder_5 : decode mc_M_holder 5 = .ok (.iload_n 1, 1) := by decide +kernel
theorem md_M_holder_6 : decode mc_M_holder 6 = .ok (.bipush 32, 2) := by decide +kernel
theorem md_M_holder_8 : decode mc_M_holder 8 = .ok (.if_icmp .le 8, 3) := by decide +kernel
theorem md_M_holder_11 : decode mc_M_holder 11 = .ok (.bipush (-2), 2) := by decide +kernel
theorem md_M_holder_13 : decode mc_M_holder 13 = .ok (.goto 9, 3) := by decide +kernel
theorem md_M_holder_16 : decode mc_M_holder 16 = .ok (.aload_n 0, 1) := by decide +kernel
theorem md_M_holder_17 : decode mc_M_holder 17 = .ok (.getfield 66, 3) := by decide +kernel
theorem md_M_holder_20 : decode mc_M_holder 20 = .ok (.iload_n 1, 1) := by decide +kernel
theorem md_M_holder_21 : decode mc_M_holder 21 = .ok (.iaload, 1) := by decide +kernel
theorem md_M_holder_22 : decode mc_M_holder 22 = .ok (.ireturn, 1) := by decide +kernel
theorem md_C_init_0 : decode mc_C_init 0 = .ok (.aload_n 0, 1) := by decide +kernel
theorem md_C_init_1 : decode mc_C_init 1 = .ok (.invokespecial 3, 3) := by decide +kernel
theorem md_C_init_4 : decode mc_C_init 4 = .ok (.aload_n 0, 1) := by decide +kernel
theorem md_C_init_5 : decode mc_C_init 5 = .ok (.new 9, 3) := by decide +kernel
theorem md_C_init_8 : decode mc_C_init 8 = .ok (.dup, 1) := by decide +kernel
theorem md_C_init_9 : decode mc_C_init 9 = .ok (.ldc 11, 2) := by decide +kernel
theorem md_C_init_11 : decode mc_C_init 11 = .ok (.invokespecial 12, 3) := by decide +kernel
theorem md_C_init_14 : decode mc_C_init 14 = .ok (.putfield 15, 3) := by decide +kernel
theorem md_C_init_17 : decode mc_C_init 17 = .ok (.aload_n 0, 1) := by decide +kernel
theorem md_C_init_18 : decode mc_C_init 18 = .ok (.iload_n 1, 1) := by decide +kernel
theorem md_C_init_19 : decode mc_C_init 19 = .ok (.putfield 21, 3) := by decide +kernel
theorem md_C_init_22 : decode mc_C_init 22 = .ok (.return_, 1) := by decide +kernel
theorem md_C_addTask_0 : decode mc_C_addTask 0 = .ok (.aload_n 0, 1) := by decide +kernel
theorem md_C_addTask_1 : decode mc_C_addTask 1 = .ok (.getfield 25, 3) := by decide +kernel
theorem md_C_addTask_4 : decode mc_C_addTask 4 = .ok (.ifnonnull 11, 3) := by decide +kernel
theorem md_C_addTask_7 : decode mc_C_addTask 7 = .ok (.aload_n 0, 1) := by decide +kernel
theorem md_C_addTask_8 : decode mc_C_addTask 8 = .ok (.aload_n 1, 1) := by decide +kernel
theorem md_C_addTask_9 : decode mc_C_addTask 9 = .ok (.putfield 29, 3) := by decide +kernel
theorem md_C_addTask_12 : decode mc_C_addTask 12 = .ok (.goto 11, 3) := by decide +kernel
theorem md_C_addTask_15 : decode mc_C_addTask 15 = .ok (.aload_n 0, 1) := by decide +kernel
theorem md_C_addTask_16 : decode mc_C_addTask 16 = .ok (.getfield 25, 3) := by decide +kernel
theorem md_C_addTask_19 : decode mc_C_addTask 19 = .ok (.aload_n 1, 1) := by decide +kernel
theorem md_C_addTask_20 : decode mc_C_addTask 20 = .ok (.putfield 32, 3) := by decide +kernel
theorem md_C_addTask_23 : decode mc_C_addTask 23 = .ok (.aload_n 0, 1) := by decide +kernel
theorem md_C_addTask_24 : decode mc_C_addTask 24 = .ok (.aload_n 1, 1) := by decide +kernel
theorem md_C_addTask_25 : decode mc_C_addTask 25 = .ok (.putfield 25, 3) := by decide +kernel
theorem md_C_addTask_28 : decode mc_C_addTask 28 = .ok (.return_, 1) := by decide +kernel
theorem md_C_noteWho_0 : decode mc_C_noteWho 0 = .ok (.aload_n 0, 1) := by decide +kernel
theorem md_C_noteWho_1 : decode mc_C_noteWho 1 = .ok (.iload_n 2, 1) := by decide +kernel
theorem md_C_noteWho_2 : decode mc_C_noteWho 2 = .ok (.putfield 37, 3) := by decide +kernel
theorem md_C_noteWho_5 : decode mc_C_noteWho 5 = .ok (.aload_n 0, 1) := by decide +kernel
theorem md_C_noteWho_6 : decode mc_C_noteWho 6 = .ok (.getfield 15, 3) := by decide +kernel
theorem md_C_noteWho_9 : decode mc_C_noteWho 9 = .ok (.iload_n 1, 1) := by decide +kernel
theorem md_C_noteWho_10 : decode mc_C_noteWho 10 = .ok (.iload_n 2, 1) := by decide +kernel
theorem md_C_noteWho_11 : decode mc_C_noteWho 11 = .ok (.iconst 0, 1) := by decide +kernel
theorem md_C_noteWho_12 : decode mc_C_noteWho 12 = .ok (.invokevirtual 40, 3) := by decide +kernel
theorem md_C_noteWho_15 : decode mc_C_noteWho 15 = .ok (.return_, 1) := by decide +kernel
theorem md_C_whoAt_0 : decode mc_C_whoAt 0 = .ok (.iconst 0, 1) := by decide +kernel
theorem md_C_whoAt_1 : decode mc_C_whoAt 1 = .ok (.istore_n 2, 1) := by decide +kernel
theorem md_C_whoAt_2 : decode mc_C_whoAt 2 = .ok (.aload_n 0, 1) := by decide +kernel
theorem md_C_whoAt_3 : decode mc_C_whoAt 3 = .ok (.getfield 15, 3) := by decide +kernel
theorem md_C_whoAt_6 : decode mc_C_whoAt 6 = .ok (.getfield 44, 3) := by decide +kernel
theorem md_C_whoAt_9 : decode mc_C_whoAt 9 = .ok (.istore_n 3, 1) := by decide +kernel
theorem md_C_whoAt_10 : decode mc_C_whoAt 10 = .ok (.iconst 0, 1) := by decide +kernel
theorem md_C_whoAt_11 : decode mc_C_whoAt 11 = .ok (.istore 4, 2) := by decide +kernel
theorem md_C_whoAt_13 : decode mc_C_whoAt 13 = .ok (.iload 4, 2) := by decide +kernel
theorem md_C_whoAt_15 : decode mc_C_whoAt 15 = .ok (.bipush 32, 2) := by decide +kernel
theorem md_C_whoAt_17 : decode mc_C_whoAt 17 = .ok (.if_icmp .ge 46, 3) := by decide +kernel
theorem md_C_whoAt_20 : decode mc_C_whoAt 20 = .ok (.iload_n 2, 1) := by decide +kernel
theorem md_C_whoAt_21 : decode mc_C_whoAt 21 = .ok (.iload_n 3, 1) := by decide +kernel
theorem md_C_whoAt_22 : decode mc_C_whoAt 22 = .ok (.if_icmp .ge 41, 3) := by decide +kernel
theorem md_C_whoAt_25 : decode mc_C_whoAt 25 = .ok (.iload_n 2, 1) := by decide +kernel
theorem md_C_whoAt_26 : decode mc_C_whoAt 26 = .ok (.iload_n 3, 1) := by decide +kernel
theorem md_C_whoAt_27 : decode mc_C_whoAt 27 = .ok (.iadd, 1) := by decide +kernel
theorem md_C_whoAt_28 : decode mc_C_whoAt 28 = .ok (.iconst 2, 1) := by decide +kernel
theorem md_C_whoAt_29 : decode mc_C_whoAt 29 = .ok (.idiv, 1) := by decide +kernel
theorem md_C_whoAt_30 : decode mc_C_whoAt 30 = .ok (.istore 5, 2) := by decide +kernel
theorem md_C_whoAt_32 : decode mc_C_whoAt 32 = .ok (.aload_n 0, 1) := by decide +kernel
theorem md_C_whoAt_33 : decode mc_C_whoAt 33 = .ok (.getfield 15, 3) := by decide +kernel
theorem md_C_whoAt_36 : decode mc_C_whoAt 36 = .ok (.iload 5, 2) := by decide +kernel
theorem md_C_whoAt_38 : decode mc_C_whoAt 38 = .ok (.iconst 0, 1) := by decide +kernel
theorem md_C_whoAt_39 : decode mc_C_whoAt 39 = .ok (.invokevirtual 47, 3) := by decide +kernel
theorem md_C_whoAt_42 : decode mc_C_whoAt 42 = .ok (.iload_n 1, 1) := by decide +kernel
theorem md_C_whoAt_43 : decode mc_C_whoAt 43 = .ok (.if_icmp .gt 11, 3) := by decide +kernel
theorem md_C_whoAt_46 : decode mc_C_whoAt 46 = .ok (.iload 5, 2) := by decide +kernel
theorem md_C_whoAt_48 : decode mc_C_whoAt 48 = .ok (.iconst 1, 1) := by decide +kernel
theorem md_C_whoAt_49 : decode mc_C_whoAt 49 = .ok (.iadd, 1) := by decide +kernel
theorem md_C_whoAt_50 : decode mc_C_whoAt 50 = .ok (.istore_n 2, 1) := by decide +kernel
theorem md_C_whoAt_51 : decode mc_C_whoAt 51 = .ok (.goto 6, 3) := by decide +kernel
theorem md_C_whoAt_54 : decode mc_C_whoAt 54 = .ok (.iload 5, 2) := by decide +kernel
theorem md_C_whoAt_56 : decode mc_C_whoAt 56 = .ok (.istore_n 3, 1) := by decide +kernel
theorem md_C_whoAt_57 : decode mc_C_whoAt 57 = .ok (.iinc 4 1, 3) := by decide +kernel
theorem md_C_whoAt_60 : decode mc_C_whoAt 60 = .ok (.goto (-47), 3) := by decide +kernel
theorem md_C_whoAt_63 : decode mc_C_whoAt 63 = .ok (.iload_n 2, 1) := by decide +kernel
theorem md_C_whoAt_64 : decode mc_C_whoAt 64 = .ok (.ifCond .ne 7, 3) := by decide +kernel
theorem md_C_whoAt_67 : decode mc_C_whoAt 67 = .ok (.iconst 0, 1) := by decide +kernel
theorem md_C_whoAt_68 : decode mc_C_whoAt 68 = .ok (.goto 14, 3) := by decide +kernel
theorem md_C_whoAt_71 : decode mc_C_whoAt 71 = .ok (.aload_n 0, 1) := by decide +kernel
theorem md_C_whoAt_72 : decode mc_C_whoAt 72 = .ok (.getfield 15, 3) := by decide +kernel
theorem md_C_whoAt_75 : decode mc_C_whoAt 75 = .ok (.iload_n 2, 1) := by decide +kernel
theorem md_C_whoAt_76 : decode mc_C_whoAt 76 = .ok (.iconst 1, 1) := by decide +kernel
theorem md_C_whoAt_77 : decode mc_C_whoAt 77 = .ok (.isub, 1) := by decide +kernel
theorem md_C_whoAt_78 : decode mc_C_whoAt 78 = .ok (.iconst 1, 1) := by decide +kernel
theorem md_C_whoAt_79 : decode mc_C_whoAt 79 = .ok (.invokevirtual 47, 3) := by decide +kernel
theorem md_C_whoAt_82 : decode mc_C_whoAt 82 = .ok (.ireturn, 1) := by decide +kernel
theorem md_I_init_0 : decode mc_I_init 0 = .ok (.aload_n 0, 1) := by decide +kernel
theorem md_I_init_1 : decode mc_I_init 1 = .ok (.invokespecial 1, 3) := by decide +kernel
theorem md_I_init_4 : decode mc_I_init 4 = .ok (.aload_n 0, 1) := by decide +kernel
end
section
theorem md_I_init_5 : decode mc_I_init 5 = .ok (.iload_n 1, 1) := by decide +kernel
theorem md_I_init_6 : decode mc_I_init 6 = .ok (.putfield 7, 3) := by decide +kernel
theorem md_I_init_9 : decode mc_I_init 9 = .ok (.aload_n 0, 1) := by decide +kernel
theorem md_I_init_10 : decode mc_I_init 10 = .ok (.iload_n 2, 1) := by decide +kernel
theorem md_I_init_11 : decode mc_I_init 11 = .ok (.putfield 13, 3) := by decide +kernel
theorem md_I_init_14 : decode mc_I_init 14 = .ok (.aload_n 0, 1) := by decide +kernel
theorem md_I_init_15 : decode mc_I_init 15 = .ok (.iload_n 3, 1) := by decide +kernel
theorem md_I_init_16 : decode mc_I_init 16 = .ok (.putfield 16, 3) := by decide +kernel
theorem md_I_init_19 : decode mc_I_init 19 = .ok (.return_, 1) := by decide +kernel
theorem md_U_init_0 : decode mc_U_init 0 = .ok (.aload_n 0, 1) := by decide +kernel
theorem md_U_init_1 : decode mc_U_init 1 = .ok (.invokespecial 3, 3) := by decide +kernel
theorem md_U_init_4 : decode mc_U_init 4 = .ok (.return_, 1) := by decide +kernel
theorem md_U_add_0 : decode mc_U_add 0 = .ok (.aload_n 0, 1) := by decide +kernel
theorem md_U_add_1 : decode mc_U_add 1 = .ok (.dup, 1) := by decide +kernel
theorem md_U_add_2 : decode mc_U_add 2 = .ok (.getfield 9, 3) := by decide +kernel
theorem md_U_add_5 : decode mc_U_add 5 = .ok (.iconst 1, 1) := by decide +kernel
theorem md_U_add_6 : decode mc_U_add 6 = .ok (.iadd, 1) := by decide +kernel
theorem md_U_add_7 : decode mc_U_add 7 = .ok (.putfield 9, 3) := by decide +kernel
theorem md_U_add_10 : decode mc_U_add 10 = .ok (.aconst_null, 1) := by decide +kernel
theorem md_U_add_11 : decode mc_U_add 11 = .ok (.astore_n 2, 1) := by decide +kernel
theorem md_U_add_12 : decode mc_U_add 12 = .ok (.aload_n 0, 1) := by decide +kernel
theorem md_U_add_13 : decode mc_U_add 13 = .ok (.getfield 15, 3) := by decide +kernel
theorem md_U_add_16 : decode mc_U_add 16 = .ok (.astore_n 3, 1) := by decide +kernel
theorem md_U_add_17 : decode mc_U_add 17 = .ok (.aload_n 3, 1) := by decide +kernel
theorem md_U_add_18 : decode mc_U_add 18 = .ok (.ifnull 24, 3) := by decide +kernel
theorem md_U_add_21 : decode mc_U_add 21 = .ok (.aload_n 3, 1) := by decide +kernel
theorem md_U_add_22 : decode mc_U_add 22 = .ok (.getfield 19, 3) := by decide +kernel
theorem md_U_add_25 : decode mc_U_add 25 = .ok (.aload_n 1, 1) := by decide +kernel
theorem md_U_add_26 : decode mc_U_add 26 = .ok (.getfield 19, 3) := by decide +kernel
theorem md_U_add_29 : decode mc_U_add 29 = .ok (.if_icmp .lt 13, 3) := by decide +kernel
theorem md_U_add_32 : decode mc_U_add 32 = .ok (.aload_n 3, 1) := by decide +kernel
theorem md_U_add_33 : decode mc_U_add 33 = .ok (.astore_n 2, 1) := by decide +kernel
theorem md_U_add_34 : decode mc_U_add 34 = .ok (.aload_n 3, 1) := by decide +kernel
theorem md_U_add_35 : decode mc_U_add 35 = .ok (.getfield 24, 3) := by decide +kernel
theorem md_U_add_38 : decode mc_U_add 38 = .ok (.astore_n 3, 1) := by decide +kernel
theorem md_U_add_39 : decode mc_U_add 39 = .ok (.goto (-22), 3) := by decide +kernel
theorem md_U_add_42 : decode mc_U_add 42 = .ok (.aload_n 2, 1) := by decide +kernel
theorem md_U_add_43 : decode mc_U_add 43 = .ok (.ifnonnull 19, 3) := by decide +kernel
theorem md_U_add_46 : decode mc_U_add 46 = .ok (.aload_n 1, 1) := by decide +kernel
theorem md_U_add_47 : decode mc_U_add 47 = .ok (.aload_n 0, 1) := by decide +kernel
theorem md_U_add_48 : decode mc_U_add 48 = .ok (.getfield 15, 3) := by decide +kernel
theorem md_U_add_51 : decode mc_U_add 51 = .ok (.putfield 24, 3) := by decide +kernel
theorem md_U_add_54 : decode mc_U_add 54 = .ok (.aload_n 0, 1) := by decide +kernel
theorem md_U_add_55 : decode mc_U_add 55 = .ok (.aload_n 1, 1) := by decide +kernel
theorem md_U_add_56 : decode mc_U_add 56 = .ok (.putfield 15, 3) := by decide +kernel
theorem md_U_add_59 : decode mc_U_add 59 = .ok (.goto 16, 3) := by decide +kernel
theorem md_U_add_62 : decode mc_U_add 62 = .ok (.aload_n 1, 1) := by decide +kernel
theorem md_U_add_63 : decode mc_U_add 63 = .ok (.aload_n 2, 1) := by decide +kernel
theorem md_U_add_64 : decode mc_U_add 64 = .ok (.getfield 24, 3) := by decide +kernel
theorem md_U_add_67 : decode mc_U_add 67 = .ok (.putfield 24, 3) := by decide +kernel
theorem md_U_add_70 : decode mc_U_add 70 = .ok (.aload_n 2, 1) := by decide +kernel
theorem md_U_add_71 : decode mc_U_add 71 = .ok (.aload_n 1, 1) := by decide +kernel
theorem md_U_add_72 : decode mc_U_add 72 = .ok (.putfield 24, 3) := by decide +kernel
theorem md_U_add_75 : decode mc_U_add 75 = .ok (.return_, 1) := by decide +kernel
theorem md_U_atHand_0 : decode mc_U_atHand 0 = .ok (.aload_n 0, 1) := by decide +kernel
theorem md_U_atHand_1 : decode mc_U_atHand 1 = .ok (.getfield 15, 3) := by decide +kernel
theorem md_U_atHand_4 : decode mc_U_atHand 4 = .ok (.astore_n 2, 1) := by decide +kernel
theorem md_U_atHand_5 : decode mc_U_atHand 5 = .ok (.aload_n 2, 1) := by decide +kernel
theorem md_U_atHand_6 : decode mc_U_atHand 6 = .ok (.ifnull 37, 3) := by decide +kernel
theorem md_U_atHand_9 : decode mc_U_atHand 9 = .ok (.aload_n 2, 1) := by decide +kernel
theorem md_U_atHand_10 : decode mc_U_atHand 10 = .ok (.getfield 27, 3) := by decide +kernel
theorem md_U_atHand_13 : decode mc_U_atHand 13 = .ok (.iload_n 1, 1) := by decide +kernel
theorem md_U_atHand_14 : decode mc_U_atHand 14 = .ok (.if_icmp .gt 21, 3) := by decide +kernel
theorem md_U_atHand_17 : decode mc_U_atHand 17 = .ok (.aload_n 0, 1) := by decide +kernel
theorem md_U_atHand_18 : decode mc_U_atHand 18 = .ok (.getfield 30, 3) := by decide +kernel
theorem md_U_atHand_21 : decode mc_U_atHand 21 = .ok (.ifnull 12, 3) := by decide +kernel
theorem md_U_atHand_24 : decode mc_U_atHand 24 = .ok (.aload_n 2, 1) := by decide +kernel
theorem md_U_atHand_25 : decode mc_U_atHand 25 = .ok (.getfield 19, 3) := by decide +kernel
theorem md_U_atHand_28 : decode mc_U_atHand 28 = .ok (.bipush 7, 2) := by decide +kernel
theorem md_U_atHand_30 : decode mc_U_atHand 30 = .ok (.if_icmp .le 5, 3) := by decide +kernel
theorem md_U_atHand_33 : decode mc_U_atHand 33 = .ok (.aload_n 2, 1) := by decide +kernel
theorem md_U_atHand_34 : decode mc_U_atHand 34 = .ok (.areturn, 1) := by decide +kernel
theorem md_U_atHand_35 : decode mc_U_atHand 35 = .ok (.aload_n 2, 1) := by decide +kernel
theorem md_U_atHand_36 : decode mc_U_atHand 36 = .ok (.getfield 24, 3) := by decide +kernel
theorem md_U_atHand_39 : decode mc_U_atHand 39 = .ok (.astore_n 2, 1) := by decide +kernel
theorem md_U_atHand_40 : decode mc_U_atHand 40 = .ok (.goto (-35), 3) := by decide +kernel
theorem md_U_atHand_43 : decode mc_U_atHand 43 = .ok (.aconst_null, 1) := by decide +kernel
theorem md_U_atHand_44 : decode mc_U_atHand 44 = .ok (.areturn, 1) := by decide +kernel
theorem md_U_nextChange_0 : decode mc_U_nextChange 0 = .ok (.aload_n 0, 1) := by decide +kernel
theorem md_U_nextChange_1 : decode mc_U_nextChange 1 = .ok (.getfield 30, 3) := by decide +kernel
theorem md_U_nextChange_4 : decode mc_U_nextChange 4 = .ok (.ifnull 18, 3) := by decide +kernel
theorem md_U_nextChange_7 : decode mc_U_nextChange 7 = .ok (.aload_n 0, 1) := by decide +kernel
theorem md_U_nextChange_8 : decode mc_U_nextChange 8 = .ok (.getfield 34, 3) := by decide +kernel
theorem md_U_nextChange_11 : decode mc_U_nextChange 11 = .ok (.iload_n 1, 1) := by decide +kernel
theorem md_U_nextChange_12 : decode mc_U_nextChange 12 = .ok (.if_icmp .le 10, 3) := by decide +kernel
theorem md_U_nextChange_15 : decode mc_U_nextChange 15 = .ok (.aload_n 0, 1) := by decide +kernel
theorem md_U_nextChange_16 : decode mc_U_nextChange 16 = .ok (.getfield 34, 3) := by decide +kernel
theorem md_U_nextChange_19 : decode mc_U_nextChange 19 = .ok (.goto 5, 3) := by decide +kernel
theorem md_U_nextChange_22 : decode mc_U_nextChange 22 = .ok (.ldc 37, 2) := by decide +kernel
theorem md_U_nextChange_24 : decode mc_U_nextChange 24 = .ok (.istore_n 2, 1) := by decide +kernel
theorem md_U_nextChange_25 : decode mc_U_nextChange 25 = .ok (.aload_n 0, 1) := by decide +kernel
theorem md_U_nextChange_26 : decode mc_U_nextChange 26 = .ok (.getfield 15, 3) := by decide +kernel
theorem md_U_nextChange_29 : decode mc_U_nextChange 29 = .ok (.astore_n 3, 1) := by decide +kernel
theorem md_U_nextChange_30 : decode mc_U_nextChange 30 = .ok (.aload_n 3, 1) := by decide +kernel
theorem md_U_nextChange_31 : decode mc_U_nextChange 31 = .ok (.ifnull 28, 3) := by decide +kernel
theorem md_U_nextChange_34 : decode mc_U_nextChange 34 = .ok (.aload_n 3, 1) := by decide +kernel
theorem md_U_nextChange_35 : decode mc_U_nextChange 35 = .ok (.getfield 27, 3) := by decide +kernel
theorem md_U_nextChange_38 : decode mc_U_nextChange 38 = .ok (.iload_n 1, 1) := by decide +kernel
theorem md_U_nextChange_39 : decode mc_U_nextChange 39 = .ok (.if_icmp .le 12, 3) := by decide +kernel
theorem md_U_nextChange_42 : decode mc_U_nextChange 42 = .ok (.iload_n 2, 1) := by decide +kernel
theorem md_U_nextChange_43 : decode mc_U_nextChange 43 = .ok (.aload_n 3, 1) := by decide +kernel
theorem md_U_nextChange_44 : decode mc_U_nextChange 44 = .ok (.getfield 27, 3) := by decide +kernel
theorem md_U_nextChange_47 : decode mc_U_nextChange 47 = .ok (.invokestatic 38, 3) := by decide +kernel
theorem md_U_nextChange_50 : decode mc_U_nextChange 50 = .ok (.istore_n 2, 1) := by decide +kernel
theorem md_U_nextChange_51 : decode mc_U_nextChange 51 = .ok (.aload_n 3, 1) := by decide +kernel
theorem md_U_nextChange_52 : decode mc_U_nextChange 52 = .ok (.getfield 24, 3) := by decide +kernel
theorem md_U_nextChange_55 : decode mc_U_nextChange 55 = .ok (.astore_n 3, 1) := by decide +kernel
theorem md_U_nextChange_56 : decode mc_U_nextChange 56 = .ok (.goto (-26), 3) := by decide +kernel
theorem md_U_nextChange_59 : decode mc_U_nextChange 59 = .ok (.iload_n 2, 1) := by decide +kernel
theorem md_U_nextChange_60 : decode mc_U_nextChange 60 = .ok (.ireturn, 1) := by decide +kernel
theorem md_U_serve_0 : decode mc_U_serve 0 = .ok (.aload_n 1, 1) := by decide +kernel
theorem md_U_serve_1 : decode mc_U_serve 1 = .ok (.dup, 1) := by decide +kernel
theorem md_U_serve_2 : decode mc_U_serve 2 = .ok (.getfield 44, 3) := by decide +kernel
theorem md_U_serve_5 : decode mc_U_serve 5 = .ok (.iload_n 2, 1) := by decide +kernel
theorem md_U_serve_6 : decode mc_U_serve 6 = .ok (.isub, 1) := by decide +kernel
theorem md_U_serve_7 : decode mc_U_serve 7 = .ok (.putfield 44, 3) := by decide +kernel
theorem md_U_serve_10 : decode mc_U_serve 10 = .ok (.aload_n 1, 1) := by decide +kernel
theorem md_U_serve_11 : decode mc_U_serve 11 = .ok (.getfield 44, 3) := by decide +kernel
theorem md_U_serve_14 : decode mc_U_serve 14 = .ok (.ifCond .le 4, 3) := by decide +kernel
theorem md_U_serve_17 : decode mc_U_serve 17 = .ok (.return_, 1) := by decide +kernel
theorem md_U_serve_18 : decode mc_U_serve 18 = .ok (.aload_n 0, 1) := by decide +kernel
theorem md_U_serve_19 : decode mc_U_serve 19 = .ok (.getfield 15, 3) := by decide +kernel
theorem md_U_serve_22 : decode mc_U_serve 22 = .ok (.aload_n 1, 1) := by decide +kernel
theorem md_U_serve_23 : decode mc_U_serve 23 = .ok (.if_acmp .ne 12, 3) := by decide +kernel
theorem md_U_serve_26 : decode mc_U_serve 26 = .ok (.aload_n 0, 1) := by decide +kernel
theorem md_U_serve_27 : decode mc_U_serve 27 = .ok (.aload_n 1, 1) := by decide +kernel
theorem md_U_serve_28 : decode mc_U_serve 28 = .ok (.getfield 24, 3) := by decide +kernel
theorem md_U_serve_31 : decode mc_U_serve 31 = .ok (.putfield 15, 3) := by decide +kernel
theorem md_U_serve_34 : decode mc_U_serve 34 = .ok (.return_, 1) := by decide +kernel
theorem md_U_serve_35 : decode mc_U_serve 35 = .ok (.aload_n 0, 1) := by decide +kernel
theorem md_U_serve_36 : decode mc_U_serve 36 = .ok (.getfield 15, 3) := by decide +kernel
theorem md_U_serve_39 : decode mc_U_serve 39 = .ok (.astore_n 3, 1) := by decide +kernel
theorem md_U_serve_40 : decode mc_U_serve 40 = .ok (.aload_n 3, 1) := by decide +kernel
theorem md_U_serve_41 : decode mc_U_serve 41 = .ok (.ifnull 28, 3) := by decide +kernel
theorem md_U_serve_44 : decode mc_U_serve 44 = .ok (.aload_n 3, 1) := by decide +kernel
theorem md_U_serve_45 : decode mc_U_serve 45 = .ok (.getfield 24, 3) := by decide +kernel
theorem md_U_serve_48 : decode mc_U_serve 48 = .ok (.aload_n 1, 1) := by decide +kernel
theorem md_U_serve_49 : decode mc_U_serve 49 = .ok (.if_acmp .ne 12, 3) := by decide +kernel
theorem md_U_serve_52 : decode mc_U_serve 52 = .ok (.aload_n 3, 1) := by decide +kernel
theorem md_U_serve_53 : decode mc_U_serve 53 = .ok (.aload_n 1, 1) := by decide +kernel
theorem md_U_serve_54 : decode mc_U_serve 54 = .ok (.getfield 24, 3) := by decide +kernel
theorem md_U_serve_57 : decode mc_U_serve 57 = .ok (.putfield 24, 3) := by decide +kernel
theorem md_U_serve_60 : decode mc_U_serve 60 = .ok (.return_, 1) := by decide +kernel
theorem md_U_serve_61 : decode mc_U_serve 61 = .ok (.aload_n 3, 1) := by decide +kernel
theorem md_U_serve_62 : decode mc_U_serve 62 = .ok (.getfield 24, 3) := by decide +kernel
theorem md_U_serve_65 : decode mc_U_serve 65 = .ok (.astore_n 3, 1) := by decide +kernel
theorem md_U_serve_66 : decode mc_U_serve 66 = .ok (.goto (-26), 3) := by decide +kernel
theorem md_U_serve_69 : decode mc_U_serve 69 = .ok (.return_, 1) := by decide +kernel
theorem md_L_init_0 : decode mc_L_init 0 = .ok (.aload_n 0, 1) := by decide +kernel
theorem md_L_init_1 : decode mc_L_init 1 = .ok (.invokespecial 1, 3) := by decide +kernel
theorem md_L_init_4 : decode mc_L_init 4 = .ok (.return_, 1) := by decide +kernel
theorem md_L_addToQueue_0 : decode mc_L_addToQueue 0 = .ok (.aconst_null, 1) := by decide +kernel
theorem md_L_addToQueue_1 : decode mc_L_addToQueue 1 = .ok (.astore_n 2, 1) := by decide +kernel
theorem md_L_addToQueue_2 : decode mc_L_addToQueue 2 = .ok (.aload_n 0, 1) := by decide +kernel
theorem md_L_addToQueue_3 : decode mc_L_addToQueue 3 = .ok (.getfield 7, 3) := by decide +kernel
theorem md_L_addToQueue_6 : decode mc_L_addToQueue 6 = .ok (.astore_n 3, 1) := by decide +kernel
theorem md_L_addToQueue_7 : decode mc_L_addToQueue 7 = .ok (.aload_n 3, 1) := by decide +kernel
theorem md_L_addToQueue_8 : decode mc_L_addToQueue 8 = .ok (.ifnull 19, 3) := by decide +kernel
theorem md_L_addToQueue_11 : decode mc_L_addToQueue 11 = .ok (.aload_n 3, 1) := by decide +kernel
theorem md_L_addToQueue_12 : decode mc_L_addToQueue 12 = .ok (.aload_n 1, 1) := by decide +kernel
theorem md_L_addToQueue_13 : decode mc_L_addToQueue 13 = .ok (.if_acmp .ne 4, 3) := by decide +kernel
theorem md_L_addToQueue_16 : decode mc_L_addToQueue 16 = .ok (.return_, 1) := by decide +kernel
theorem md_L_addToQueue_17 : decode mc_L_addToQueue 17 = .ok (.aload_n 3, 1) := by decide +kernel
theorem md_L_addToQueue_18 : decode mc_L_addToQueue 18 = .ok (.astore_n 2, 1) := by decide +kernel
theorem md_L_addToQueue_19 : decode mc_L_addToQueue 19 = .ok (.aload_n 3, 1) := by decide +kernel
theorem md_L_addToQueue_20 : decode mc_L_addToQueue 20 = .ok (.getfield 13, 3) := by decide +kernel
theorem md_L_addToQueue_23 : decode mc_L_addToQueue 23 = .ok (.astore_n 3, 1) := by decide +kernel
theorem md_L_addToQueue_24 : decode mc_L_addToQueue 24 = .ok (.goto (-17), 3) := by decide +kernel
theorem md_L_addToQueue_27 : decode mc_L_addToQueue 27 = .ok (.aload_n 2, 1) := by decide +kernel
theorem md_L_addToQueue_28 : decode mc_L_addToQueue 28 = .ok (.ifnonnull 11, 3) := by decide +kernel
theorem md_L_addToQueue_31 : decode mc_L_addToQueue 31 = .ok (.aload_n 0, 1) := by decide +kernel
theorem md_L_addToQueue_32 : decode mc_L_addToQueue 32 = .ok (.aload_n 1, 1) := by decide +kernel
theorem md_L_addToQueue_33 : decode mc_L_addToQueue 33 = .ok (.putfield 7, 3) := by decide +kernel
theorem md_L_addToQueue_36 : decode mc_L_addToQueue 36 = .ok (.goto 8, 3) := by decide +kernel
theorem md_L_addToQueue_39 : decode mc_L_addToQueue 39 = .ok (.aload_n 2, 1) := by decide +kernel
theorem md_L_addToQueue_40 : decode mc_L_addToQueue 40 = .ok (.aload_n 1, 1) := by decide +kernel
theorem md_L_addToQueue_41 : decode mc_L_addToQueue 41 = .ok (.putfield 13, 3) := by decide +kernel
theorem md_L_addToQueue_44 : decode mc_L_addToQueue 44 = .ok (.return_, 1) := by decide +kernel
theorem md_L_firstInQueueOf_0 : decode mc_L_firstInQueueOf 0 = .ok (.aload_n 0, 1) := by decide +kernel
theorem md_L_firstInQueueOf_1 : decode mc_L_firstInQueueOf 1 = .ok (.getfield 7, 3) := by decide +kernel
theorem md_L_firstInQueueOf_4 : decode mc_L_firstInQueueOf 4 = .ok (.astore_n 2, 1) := by decide +kernel
theorem md_L_firstInQueueOf_5 : decode mc_L_firstInQueueOf 5 = .ok (.aload_n 2, 1) := by decide +kernel
theorem md_L_firstInQueueOf_6 : decode mc_L_firstInQueueOf 6 = .ok (.ifnull 21, 3) := by decide +kernel
theorem md_L_firstInQueueOf_9 : decode mc_L_firstInQueueOf 9 = .ok (.aload_n 2, 1) := by decide +kernel
theorem md_L_firstInQueueOf_10 : decode mc_L_firstInQueueOf 10 = .ok (.getfield 18, 3) := by decide +kernel
theorem md_L_firstInQueueOf_13 : decode mc_L_firstInQueueOf 13 = .ok (.aload_n 1, 1) := by decide +kernel
theorem md_L_firstInQueueOf_14 : decode mc_L_firstInQueueOf 14 = .ok (.if_acmp .ne 5, 3) := by decide +kernel
theorem md_L_firstInQueueOf_17 : decode mc_L_firstInQueueOf 17 = .ok (.aload_n 2, 1) := by decide +kernel
theorem md_L_firstInQueueOf_18 : decode mc_L_firstInQueueOf 18 = .ok (.areturn, 1) := by decide +kernel
theorem md_L_firstInQueueOf_19 : decode mc_L_firstInQueueOf 19 = .ok (.aload_n 2, 1) := by decide +kernel
theorem md_L_firstInQueueOf_20 : decode mc_L_firstInQueueOf 20 = .ok (.getfield 13, 3) := by decide +kernel
theorem md_L_firstInQueueOf_23 : decode mc_L_firstInQueueOf 23 = .ok (.astore_n 2, 1) := by decide +kernel
theorem md_L_firstInQueueOf_24 : decode mc_L_firstInQueueOf 24 = .ok (.goto (-19), 3) := by decide +kernel
theorem md_L_firstInQueueOf_27 : decode mc_L_firstInQueueOf 27 = .ok (.aconst_null, 1) := by decide +kernel
theorem md_L_firstInQueueOf_28 : decode mc_L_firstInQueueOf 28 = .ok (.areturn, 1) := by decide +kernel
theorem md_L_handOn_0 : decode mc_L_handOn 0 = .ok (.aload_n 0, 1) := by decide +kernel
theorem md_L_handOn_1 : decode mc_L_handOn 1 = .ok (.getfield 7, 3) := by decide +kernel
theorem md_L_handOn_4 : decode mc_L_handOn 4 = .ok (.astore_n 1, 1) := by decide +kernel
theorem md_L_handOn_5 : decode mc_L_handOn 5 = .ok (.aload_n 0, 1) := by decide +kernel
theorem md_L_handOn_6 : decode mc_L_handOn 6 = .ok (.aload_n 1, 1) := by decide +kernel
theorem md_L_handOn_7 : decode mc_L_handOn 7 = .ok (.putfield 22, 3) := by decide +kernel
theorem md_L_handOn_10 : decode mc_L_handOn 10 = .ok (.aload_n 1, 1) := by decide +kernel
theorem md_L_handOn_11 : decode mc_L_handOn 11 = .ok (.ifnonnull 4, 3) := by decide +kernel
theorem md_L_handOn_14 : decode mc_L_handOn 14 = .ok (.return_, 1) := by decide +kernel
theorem md_L_handOn_15 : decode mc_L_handOn 15 = .ok (.aload_n 0, 1) := by decide +kernel
theorem md_L_handOn_16 : decode mc_L_handOn 16 = .ok (.aload_n 1, 1) := by decide +kernel
theorem md_L_handOn_17 : decode mc_L_handOn 17 = .ok (.getfield 13, 3) := by decide +kernel
theorem md_L_handOn_20 : decode mc_L_handOn 20 = .ok (.putfield 7, 3) := by decide +kernel
theorem md_L_handOn_23 : decode mc_L_handOn 23 = .ok (.aload_n 1, 1) := by decide +kernel
theorem md_L_handOn_24 : decode mc_L_handOn 24 = .ok (.aconst_null, 1) := by decide +kernel
theorem md_L_handOn_25 : decode mc_L_handOn 25 = .ok (.putfield 13, 3) := by decide +kernel
theorem md_L_handOn_28 : decode mc_L_handOn 28 = .ok (.aload_n 1, 1) := by decide +kernel
theorem md_L_handOn_29 : decode mc_L_handOn 29 = .ok (.dup, 1) := by decide +kernel
theorem md_L_handOn_30 : decode mc_L_handOn 30 = .ok (.getfield 25, 3) := by decide +kernel
theorem md_L_handOn_33 : decode mc_L_handOn 33 = .ok (.iconst 1, 1) := by decide +kernel
theorem md_L_handOn_34 : decode mc_L_handOn 34 = .ok (.iadd, 1) := by decide +kernel
theorem md_L_handOn_35 : decode mc_L_handOn 35 = .ok (.putfield 25, 3) := by decide +kernel
theorem md_L_handOn_38 : decode mc_L_handOn 38 = .ok (.aload_n 1, 1) := by decide +kernel
theorem md_L_handOn_39 : decode mc_L_handOn 39 = .ok (.getfield 29, 3) := by decide +kernel
theorem md_L_handOn_42 : decode mc_L_handOn 42 = .ok (.ifnull 14, 3) := by decide +kernel
theorem md_L_handOn_45 : decode mc_L_handOn 45 = .ok (.aload_n 1, 1) := by decide +kernel
theorem md_L_handOn_46 : decode mc_L_handOn 46 = .ok (.aload_n 1, 1) := by decide +kernel
theorem md_L_handOn_47 : decode mc_L_handOn 47 = .ok (.getfield 29, 3) := by decide +kernel
theorem md_L_handOn_50 : decode mc_L_handOn 50 = .ok (.getfield 33, 3) := by decide +kernel
theorem md_L_handOn_53 : decode mc_L_handOn 53 = .ok (.putfield 29, 3) := by decide +kernel
theorem md_L_handOn_56 : decode mc_L_handOn 56 = .ok (.return_, 1) := by decide +kernel
theorem md_G_init_0 : decode mc_G_init 0 = .ok (.aload_n 0, 1) := by decide +kernel
theorem md_G_init_1 : decode mc_G_init 1 = .ok (.invokespecial 3, 3) := by decide +kernel
theorem md_G_init_4 : decode mc_G_init 4 = .ok (.aload_n 0, 1) := by decide +kernel
theorem md_G_init_5 : decode mc_G_init 5 = .ok (.iconst 0, 1) := by decide +kernel
theorem md_G_init_6 : decode mc_G_init 6 = .ok (.iload_n 1, 1) := by decide +kernel
theorem md_G_init_7 : decode mc_G_init 7 = .ok (.invokestatic 9, 3) := by decide +kernel
theorem md_G_init_10 : decode mc_G_init 10 = .ok (.putfield 15, 3) := by decide +kernel
theorem md_G_init_13 : decode mc_G_init 13 = .ok (.aload_n 0, 1) := by decide +kernel
theorem md_G_init_14 : decode mc_G_init 14 = .ok (.aload_n 0, 1) := by decide +kernel
theorem md_G_init_15 : decode mc_G_init 15 = .ok (.getfield 15, 3) := by decide +kernel
theorem md_G_init_18 : decode mc_G_init 18 = .ok (.sipush 512, 3) := by decide +kernel
theorem md_G_init_21 : decode mc_G_init 21 = .ok (.idiv, 1) := by decide +kernel
theorem md_G_init_22 : decode mc_G_init 22 = .ok (.iconst 1, 1) := by decide +kernel
theorem md_G_init_23 : decode mc_G_init 23 = .ok (.iadd, 1) := by decide +kernel
theorem md_G_init_24 : decode mc_G_init 24 = .ok (.anewarray 21, 3) := by decide +kernel
theorem md_G_init_27 : decode mc_G_init 27 = .ok (.putfield 23, 3) := by decide +kernel
theorem md_G_init_30 : decode mc_G_init 30 = .ok (.return_, 1) := by decide +kernel
theorem md_G_add_0 : decode mc_G_add 0 = .ok (.aload_n 0, 1) := by decide +kernel
theorem md_G_add_1 : decode mc_G_add 1 = .ok (.getfield 27, 3) := by decide +kernel
theorem md_G_add_4 : decode mc_G_add 4 = .ok (.istore 4, 2) := by decide +kernel
theorem md_G_add_6 : decode mc_G_add 6 = .ok (.aload_n 0, 1) := by decide +kernel
theorem md_G_add_7 : decode mc_G_add 7 = .ok (.dup, 1) := by decide +kernel
theorem md_G_add_8 : decode mc_G_add 8 = .ok (.getfield 27, 3) := by decide +kernel
theorem md_G_add_11 : decode mc_G_add 11 = .ok (.iconst 1, 1) := by decide +kernel
theorem md_G_add_12 : decode mc_G_add 12 = .ok (.iadd, 1) := by decide +kernel
theorem md_G_add_13 : decode mc_G_add 13 = .ok (.putfield 27, 3) := by decide +kernel
theorem md_G_add_16 : decode mc_G_add 16 = .ok (.iload 4, 2) := by decide +kernel
theorem md_G_add_18 : decode mc_G_add 18 = .ok (.sipush 512, 3) := by decide +kernel
theorem md_G_add_21 : decode mc_G_add 21 = .ok (.idiv, 1) := by decide +kernel
theorem md_G_add_22 : decode mc_G_add 22 = .ok (.istore 5, 2) := by decide +kernel
theorem md_G_add_24 : decode mc_G_add 24 = .ok (.iload 4, 2) := by decide +kernel
theorem md_G_add_26 : decode mc_G_add 26 = .ok (.ifCond .lt 22, 3) := by decide +kernel
theorem md_G_add_29 : decode mc_G_add 29 = .ok (.iload 4, 2) := by decide +kernel
theorem md_G_add_31 : decode mc_G_add 31 = .ok (.aload_n 0, 1) := by decide +kernel
theorem md_G_add_32 : decode mc_G_add 32 = .ok (.getfield 15, 3) := by decide +kernel
theorem md_G_add_35 : decode mc_G_add 35 = .ok (.if_icmp .ge 13, 3) := by decide +kernel
theorem md_G_add_38 : decode mc_G_add 38 = .ok (.iload 5, 2) := by decide +kernel
theorem md_G_add_40 : decode mc_G_add 40 = .ok (.aload_n 0, 1) := by decide +kernel
theorem md_G_add_41 : decode mc_G_add 41 = .ok (.getfield 23, 3) := by decide +kernel
theorem md_G_add_44 : decode mc_G_add 44 = .ok (.arraylength, 1) := by decide +kernel
theorem md_G_add_45 : decode mc_G_add 45 = .ok (.if_icmp .lt 4, 3) := by decide +kernel
theorem md_G_add_48 : decode mc_G_add 48 = .ok (.return_, 1) := by decide +kernel
theorem md_G_add_49 : decode mc_G_add 49 = .ok (.aload_n 0, 1) := by decide +kernel
theorem md_G_add_50 : decode mc_G_add 50 = .ok (.getfield 23, 3) := by decide +kernel
theorem md_G_add_53 : decode mc_G_add 53 = .ok (.iload 5, 2) := by decide +kernel
theorem md_G_add_55 : decode mc_G_add 55 = .ok (.aaload, 1) := by decide +kernel
theorem md_G_add_56 : decode mc_G_add 56 = .ok (.ifnonnull 15, 3) := by decide +kernel
theorem md_G_add_59 : decode mc_G_add 59 = .ok (.aload_n 0, 1) := by decide +kernel
theorem md_G_add_60 : decode mc_G_add 60 = .ok (.getfield 23, 3) := by decide +kernel
theorem md_G_add_63 : decode mc_G_add 63 = .ok (.iload 5, 2) := by decide +kernel
theorem md_G_add_65 : decode mc_G_add 65 = .ok (.sipush 512, 3) := by decide +kernel
theorem md_G_add_68 : decode mc_G_add 68 = .ok (.newarray .long, 2) := by decide +kernel
theorem md_G_add_70 : decode mc_G_add 70 = .ok (.aastore, 1) := by decide +kernel
theorem md_G_add_71 : decode mc_G_add 71 = .ok (.aload_n 0, 1) := by decide +kernel
theorem md_G_add_72 : decode mc_G_add 72 = .ok (.getfield 23, 3) := by decide +kernel
theorem md_G_add_75 : decode mc_G_add 75 = .ok (.iload 5, 2) := by decide +kernel
theorem md_G_add_77 : decode mc_G_add 77 = .ok (.aaload, 1) := by decide +kernel
theorem md_G_add_78 : decode mc_G_add 78 = .ok (.iload 4, 2) := by decide +kernel
theorem md_G_add_80 : decode mc_G_add 80 = .ok (.sipush 512, 3) := by decide +kernel
theorem md_G_add_83 : decode mc_G_add 83 = .ok (.irem, 1) := by decide +kernel
theorem md_G_add_84 : decode mc_G_add 84 = .ok (.iload_n 1, 1) := by decide +kernel
theorem md_G_add_85 : decode mc_G_add 85 = .ok (.i2l, 1) := by decide +kernel
theorem md_G_add_86 : decode mc_G_add 86 = .ok (.bipush 40, 2) := by decide +kernel
theorem md_G_add_88 : decode mc_G_add 88 = .ok (.lshl, 1) := by decide +kernel
theorem md_G_add_89 : decode mc_G_add 89 = .ok (.iload_n 2, 1) := by decide +kernel
theorem md_G_add_90 : decode mc_G_add 90 = .ok (.i2l, 1) := by decide +kernel
theorem md_G_add_91 : decode mc_G_add 91 = .ok (.bipush 20, 2) := by decide +kernel
theorem md_G_add_93 : decode mc_G_add 93 = .ok (.lshl, 1) := by decide +kernel
theorem md_G_add_94 : decode mc_G_add 94 = .ok (.lor, 1) := by decide +kernel
theorem md_G_add_95 : decode mc_G_add 95 = .ok (.iload_n 3, 1) := by decide +kernel
theorem md_G_add_96 : decode mc_G_add 96 = .ok (.i2l, 1) := by decide +kernel
theorem md_G_add_97 : decode mc_G_add 97 = .ok (.lor, 1) := by decide +kernel
theorem md_G_add_98 : decode mc_G_add 98 = .ok (.lastore, 1) := by decide +kernel
theorem md_G_add_99 : decode mc_G_add 99 = .ok (.return_, 1) := by decide +kernel
theorem md_G_answer_0 : decode mc_G_answer 0 = .ok (.iload_n 1, 1) := by decide +kernel
theorem md_G_answer_1 : decode mc_G_answer 1 = .ok (.iconst (-1), 1) := by decide +kernel
theorem md_G_answer_2 : decode mc_G_answer 2 = .ok (.if_icmp .ne 12, 3) := by decide +kernel
theorem md_G_answer_5 : decode mc_G_answer 5 = .ok (.iload_n 2, 1) := by decide +kernel
theorem md_G_answer_6 : decode mc_G_answer 6 = .ok (.ifCond .ne 8, 3) := by decide +kernel
theorem md_G_answer_9 : decode mc_G_answer 9 = .ok (.aload_n 0, 1) := by decide +kernel
theorem md_G_answer_10 : decode mc_G_answer 10 = .ok (.getfield 27, 3) := by decide +kernel
theorem md_G_answer_13 : decode mc_G_answer 13 = .ok (.ireturn, 1) := by decide +kernel
theorem md_G_answer_14 : decode mc_G_answer 14 = .ok (.iload_n 1, 1) := by decide +kernel
theorem md_G_answer_15 : decode mc_G_answer 15 = .ok (.ifCond .lt 32, 3) := by decide +kernel
theorem md_G_answer_18 : decode mc_G_answer 18 = .ok (.iload_n 1, 1) := by decide +kernel
theorem md_G_answer_19 : decode mc_G_answer 19 = .ok (.aload_n 0, 1) := by decide +kernel
theorem md_G_answer_20 : decode mc_G_answer 20 = .ok (.getfield 27, 3) := by decide +kernel
theorem md_G_answer_23 : decode mc_G_answer 23 = .ok (.if_icmp .ge 24, 3) := by decide +kernel
theorem md_G_answer_26 : decode mc_G_answer 26 = .ok (.iload_n 1, 1) := by decide +kernel
theorem md_G_answer_27 : decode mc_G_answer 27 = .ok (.aload_n 0, 1) := by decide +kernel
theorem md_G_answer_28 : decode mc_G_answer 28 = .ok (.getfield 15, 3) := by decide +kernel
theorem md_G_answer_31 : decode mc_G_answer 31 = .ok (.if_icmp .ge 16, 3) := by decide +kernel
theorem md_G_answer_34 : decode mc_G_answer 34 = .ok (.iload_n 1, 1) := by decide +kernel
theorem md_G_answer_35 : decode mc_G_answer 35 = .ok (.sipush 512, 3) := by decide +kernel
theorem md_G_answer_38 : decode mc_G_answer 38 = .ok (.idiv, 1) := by decide +kernel
theorem md_G_answer_39 : decode mc_G_answer 39 = .ok (.aload_n 0, 1) := by decide +kernel
theorem md_G_answer_40 : decode mc_G_answer 40 = .ok (.getfield 23, 3) := by decide +kernel
theorem md_G_answer_43 : decode mc_G_answer 43 = .ok (.arraylength, 1) := by decide +kernel
theorem md_G_answer_44 : decode mc_G_answer 44 = .ok (.if_icmp .lt 5, 3) := by decide +kernel
theorem md_G_answer_47 : decode mc_G_answer 47 = .ok (.iconst (-1), 1) := by decide +kernel
theorem md_G_answer_48 : decode mc_G_answer 48 = .ok (.ireturn, 1) := by decide +kernel
theorem md_G_answer_49 : decode mc_G_answer 49 = .ok (.iload_n 2, 1) := by decide +kernel
theorem md_G_answer_50 : decode mc_G_answer 50 = .ok (.ifCond .lt 8, 3) := by decide +kernel
theorem md_G_answer_53 : decode mc_G_answer 53 = .ok (.iload_n 2, 1) := by decide +kernel
theorem md_G_answer_54 : decode mc_G_answer 54 = .ok (.iconst 2, 1) := by decide +kernel
theorem md_G_answer_55 : decode mc_G_answer 55 = .ok (.if_icmp .le 6, 3) := by decide +kernel
theorem md_G_answer_58 : decode mc_G_answer 58 = .ok (.bipush (-2), 2) := by decide +kernel
theorem md_G_answer_60 : decode mc_G_answer 60 = .ok (.ireturn, 1) := by decide +kernel
theorem md_G_answer_61 : decode mc_G_answer 61 = .ok (.aload_n 0, 1) := by decide +kernel
theorem md_G_answer_62 : decode mc_G_answer 62 = .ok (.getfield 23, 3) := by decide +kernel
theorem md_G_answer_65 : decode mc_G_answer 65 = .ok (.iload_n 1, 1) := by decide +kernel
theorem md_G_answer_66 : decode mc_G_answer 66 = .ok (.sipush 512, 3) := by decide +kernel
theorem md_G_answer_69 : decode mc_G_answer 69 = .ok (.idiv, 1) := by decide +kernel
theorem md_G_answer_70 : decode mc_G_answer 70 = .ok (.aaload, 1) := by decide +kernel
theorem md_G_answer_71 : decode mc_G_answer 71 = .ok (.astore_n 3, 1) := by decide +kernel
theorem md_G_answer_72 : decode mc_G_answer 72 = .ok (.aload_n 3, 1) := by decide +kernel
theorem md_G_answer_73 : decode mc_G_answer 73 = .ok (.ifnonnull 7, 3) := by decide +kernel
theorem md_G_answer_76 : decode mc_G_answer 76 = .ok (.iconst (-1), 1) := by decide +kernel
theorem md_G_answer_77 : decode mc_G_answer 77 = .ok (.goto 22, 3) := by decide +kernel
theorem md_G_answer_80 : decode mc_G_answer 80 = .ok (.aload_n 3, 1) := by decide +kernel
theorem md_G_answer_81 : decode mc_G_answer 81 = .ok (.iload_n 1, 1) := by decide +kernel
theorem md_G_answer_82 : decode mc_G_answer 82 = .ok (.sipush 512, 3) := by decide +kernel
theorem md_G_answer_85 : decode mc_G_answer 85 = .ok (.irem, 1) := by decide +kernel
theorem md_G_answer_86 : decode mc_G_answer 86 = .ok (.laload, 1) := by decide +kernel
theorem md_G_answer_87 : decode mc_G_answer 87 = .ok (.iconst 2, 1) := by decide +kernel
theorem md_G_answer_88 : decode mc_G_answer 88 = .ok (.iload_n 2, 1) := by decide +kernel
theorem md_G_answer_89 : decode mc_G_answer 89 = .ok (.isub, 1) := by decide +kernel
theorem md_G_answer_90 : decode mc_G_answer 90 = .ok (.bipush 20, 2) := by decide +kernel
theorem md_G_answer_92 : decode mc_G_answer 92 = .ok (.imul, 1) := by decide +kernel
theorem md_G_answer_93 : decode mc_G_answer 93 = .ok (.lshr, 1) := by decide +kernel
theorem md_G_answer_94 : decode mc_G_answer 94 = .ok (.ldc2_w 30, 3) := by decide +kernel
theorem md_G_answer_97 : decode mc_G_answer 97 = .ok (.land, 1) := by decide +kernel
theorem md_G_answer_98 : decode mc_G_answer 98 = .ok (.l2i, 1) := by decide +kernel
theorem md_G_answer_99 : decode mc_G_answer 99 = .ok (.ireturn, 1) := by decide +kernel
theorem md_P_init_0 : decode mc_P_init 0 = .ok (.aload_n 0, 1) := by decide +kernel
theorem md_P_init_1 : decode mc_P_init 1 = .ok (.invokespecial 1, 3) := by decide +kernel
theorem md_P_init_4 : decode mc_P_init 4 = .ok (.aload_n 0, 1) := by decide +kernel
theorem md_P_init_5 : decode mc_P_init 5 = .ok (.iload_n 1, 1) := by decide +kernel
theorem md_P_init_6 : decode mc_P_init 6 = .ok (.putfield 7, 3) := by decide +kernel
theorem md_P_init_9 : decode mc_P_init 9 = .ok (.aload_n 0, 1) := by decide +kernel
theorem md_P_init_10 : decode mc_P_init 10 = .ok (.iload_n 2, 1) := by decide +kernel
theorem md_P_init_11 : decode mc_P_init 11 = .ok (.putfield 13, 3) := by decide +kernel
theorem md_P_init_14 : decode mc_P_init 14 = .ok (.return_, 1) := by decide +kernel
theorem md_R_init_0 : decode mc_R_init 0 = .ok (.aload_n 0, 1) := by decide +kernel
theorem md_R_init_1 : decode mc_R_init 1 = .ok (.invokespecial 1, 3) := by decide +kernel
theorem md_R_init_4 : decode mc_R_init 4 = .ok (.return_, 1) := by decide +kernel
theorem md_K_init_0 : decode mc_K_init 0 = .ok (.aload_n 0, 1) := by decide +kernel
theorem md_K_init_1 : decode mc_K_init 1 = .ok (.invokespecial 3, 3) := by decide +kernel
theorem md_K_init_4 : decode mc_K_init 4 = .ok (.aload_n 0, 1) := by decide +kernel
theorem md_K_init_5 : decode mc_K_init 5 = .ok (.iconst 1, 1) := by decide +kernel
theorem md_K_init_6 : decode mc_K_init 6 = .ok (.putfield 9, 3) := by decide +kernel
theorem md_K_init_9 : decode mc_K_init 9 = .ok (.aload_n 0, 1) := by decide +kernel
theorem md_K_init_10 : decode mc_K_init 10 = .ok (.new 15, 3) := by decide +kernel
theorem md_K_init_13 : decode mc_K_init 13 = .ok (.dup, 1) := by decide +kernel
theorem md_K_init_14 : decode mc_K_init 14 = .ok (.iconst 0, 1) := by decide +kernel
theorem md_K_init_15 : decode mc_K_init 15 = .ok (.iconst 1, 1) := by decide +kernel
theorem md_K_init_16 : decode mc_K_init 16 = .ok (.invokespecial 17, 3) := by decide +kernel
theorem md_K_init_19 : decode mc_K_init 19 = .ok (.putfield 20, 3) := by decide +kernel
theorem md_K_init_22 : decode mc_K_init 22 = .ok (.aload_n 0, 1) := by decide +kernel
theorem md_K_init_23 : decode mc_K_init 23 = .ok (.iconst 0, 1) := by decide +kernel
theorem md_K_init_24 : decode mc_K_init 24 = .ok (.putfield 24, 3) := by decide +kernel
theorem md_K_init_27 : decode mc_K_init 27 = .ok (.aload_n 0, 1) := by decide +kernel
theorem md_K_init_28 : decode mc_K_init 28 = .ok (.iload_n 1, 1) := by decide +kernel
theorem md_K_init_29 : decode mc_K_init 29 = .ok (.putfield 28, 3) := by decide +kernel
theorem md_K_init_32 : decode mc_K_init 32 = .ok (.aload_n 0, 1) := by decide +kernel
theorem md_K_init_33 : decode mc_K_init 33 = .ok (.iload_n 2, 1) := by decide +kernel
theorem md_K_init_34 : decode mc_K_init 34 = .ok (.putfield 31, 3) := by decide +kernel
theorem md_K_init_37 : decode mc_K_init 37 = .ok (.aload_n 0, 1) := by decide +kernel
theorem md_K_init_38 : decode mc_K_init 38 = .ok (.aload_n 3, 1) := by decide +kernel
theorem md_K_init_39 : decode mc_K_init 39 = .ok (.putfield 34, 3) := by decide +kernel
theorem md_K_init_42 : decode mc_K_init 42 = .ok (.aload_n 0, 1) := by decide +kernel
theorem md_K_init_43 : decode mc_K_init 43 = .ok (.iload 4, 2) := by decide +kernel
theorem md_K_init_45 : decode mc_K_init 45 = .ok (.putfield 38, 3) := by decide +kernel
theorem md_K_init_48 : decode mc_K_init 48 = .ok (.aload_n 0, 1) := by decide +kernel
theorem md_K_init_49 : decode mc_K_init 49 = .ok (.iload 5, 2) := by decide +kernel
theorem md_K_init_51 : decode mc_K_init 51 = .ok (.putfield 41, 3) := by decide +kernel
theorem md_K_init_54 : decode mc_K_init 54 = .ok (.return_, 1) := by decide +kernel
theorem md_K_addPart_0 : decode mc_K_addPart 0 = .ok (.iconst 1, 1) := by decide +kernel
theorem md_K_addPart_1 : decode mc_K_addPart 1 = .ok (.istore_n 2, 1) := by decide +kernel
theorem md_K_addPart_2 : decode mc_K_addPart 2 = .ok (.aload_n 0, 1) := by decide +kernel
theorem md_K_addPart_3 : decode mc_K_addPart 3 = .ok (.getfield 20, 3) := by decide +kernel
theorem md_K_addPart_6 : decode mc_K_addPart 6 = .ok (.astore_n 3, 1) := by decide +kernel
theorem md_K_addPart_7 : decode mc_K_addPart 7 = .ok (.aload_n 0, 1) := by decide +kernel
theorem md_K_addPart_8 : decode mc_K_addPart 8 = .ok (.getfield 20, 3) := by decide +kernel
theorem md_K_addPart_11 : decode mc_K_addPart 11 = .ok (.getfield 44, 3) := by decide +kernel
theorem md_K_addPart_14 : decode mc_K_addPart 14 = .ok (.astore 4, 2) := by decide +kernel
theorem md_K_addPart_16 : decode mc_K_addPart 16 = .ok (.aload 4, 2) := by decide +kernel
theorem md_K_addPart_18 : decode mc_K_addPart 18 = .ok (.ifnull 19, 3) := by decide +kernel
theorem md_K_addPart_21 : decode mc_K_addPart 21 = .ok (.aload 4, 2) := by decide +kernel
theorem md_K_addPart_23 : decode mc_K_addPart 23 = .ok (.astore_n 3, 1) := by decide +kernel
theorem md_K_addPart_24 : decode mc_K_addPart 24 = .ok (.iinc 2 1, 3) := by decide +kernel
theorem md_K_addPart_27 : decode mc_K_addPart 27 = .ok (.aload 4, 2) := by decide +kernel
theorem md_K_addPart_29 : decode mc_K_addPart 29 = .ok (.getfield 44, 3) := by decide +kernel
theorem md_K_addPart_32 : decode mc_K_addPart 32 = .ok (.astore 4, 2) := by decide +kernel
theorem md_K_addPart_34 : decode mc_K_addPart 34 = .ok (.goto (-18), 3) := by decide +kernel
theorem md_K_addPart_37 : decode mc_K_addPart 37 = .ok (.aload_n 3, 1) := by decide +kernel
theorem md_K_addPart_38 : decode mc_K_addPart 38 = .ok (.aload_n 1, 1) := by decide +kernel
theorem md_K_addPart_39 : decode mc_K_addPart 39 = .ok (.putfield 44, 3) := by decide +kernel
theorem md_K_addPart_42 : decode mc_K_addPart 42 = .ok (.iload_n 2, 1) := by decide +kernel
theorem md_K_addPart_43 : decode mc_K_addPart 43 = .ok (.ireturn, 1) := by decide +kernel
theorem md_K_mayBeSet_0 : decode mc_K_mayBeSet 0 = .ok (.aload_n 0, 1) := by decide +kernel
theorem md_K_mayBeSet_1 : decode mc_K_mayBeSet 1 = .ok (.getfield 41, 3) := by decide +kernel
theorem md_K_mayBeSet_4 : decode mc_K_mayBeSet 4 = .ok (.ifCond .eq 14, 3) := by decide +kernel
theorem md_K_mayBeSet_7 : decode mc_K_mayBeSet 7 = .ok (.aload_n 0, 1) := by decide +kernel
theorem md_K_mayBeSet_8 : decode mc_K_mayBeSet 8 = .ok (.getfield 24, 3) := by decide +kernel
theorem md_K_mayBeSet_11 : decode mc_K_mayBeSet 11 = .ok (.ifCond .eq 7, 3) := by decide +kernel
theorem md_K_mayBeSet_14 : decode mc_K_mayBeSet 14 = .ok (.iconst 1, 1) := by decide +kernel
theorem md_K_mayBeSet_15 : decode mc_K_mayBeSet 15 = .ok (.goto 4, 3) := by decide +kernel
theorem md_K_mayBeSet_18 : decode mc_K_mayBeSet 18 = .ok (.iconst 0, 1) := by decide +kernel
theorem md_K_mayBeSet_19 : decode mc_K_mayBeSet 19 = .ok (.ireturn, 1) := by decide +kernel
theorem md_K_height_0 : decode mc_K_height 0 = .ok (.aload_n 0, 1) := by decide +kernel
theorem md_K_height_1 : decode mc_K_height 1 = .ok (.getfield 31, 3) := by decide +kernel
theorem md_K_height_4 : decode mc_K_height 4 = .ok (.istore_n 1, 1) := by decide +kernel
theorem md_K_height_5 : decode mc_K_height 5 = .ok (.aload_n 0, 1) := by decide +kernel
theorem md_K_height_6 : decode mc_K_height 6 = .ok (.getfield 47, 3) := by decide +kernel
theorem md_K_height_9 : decode mc_K_height 9 = .ok (.astore_n 2, 1) := by decide +kernel
theorem md_K_height_10 : decode mc_K_height 10 = .ok (.aload_n 2, 1) := by decide +kernel
theorem md_K_height_11 : decode mc_K_height 11 = .ok (.ifnull 20, 3) := by decide +kernel
theorem md_K_height_14 : decode mc_K_height 14 = .ok (.iload_n 1, 1) := by decide +kernel
theorem md_K_height_15 : decode mc_K_height 15 = .ok (.aload_n 2, 1) := by decide +kernel
theorem md_K_height_16 : decode mc_K_height 16 = .ok (.getfield 51, 3) := by decide +kernel
theorem md_K_height_19 : decode mc_K_height 19 = .ok (.invokestatic 56, 3) := by decide +kernel
theorem md_K_height_22 : decode mc_K_height 22 = .ok (.istore_n 1, 1) := by decide +kernel
theorem md_K_height_23 : decode mc_K_height 23 = .ok (.aload_n 2, 1) := by decide +kernel
theorem md_K_height_24 : decode mc_K_height 24 = .ok (.getfield 62, 3) := by decide +kernel
theorem md_K_height_27 : decode mc_K_height 27 = .ok (.astore_n 2, 1) := by decide +kernel
theorem md_K_height_28 : decode mc_K_height 28 = .ok (.goto (-18), 3) := by decide +kernel
theorem md_K_height_31 : decode mc_K_height 31 = .ok (.iload_n 1, 1) := by decide +kernel
theorem md_K_height_32 : decode mc_K_height 32 = .ok (.ireturn, 1) := by decide +kernel
theorem md_K_comesBefore_0 : decode mc_K_comesBefore 0 = .ok (.aload_n 0, 1) := by decide +kernel
theorem md_K_comesBefore_1 : decode mc_K_comesBefore 1 = .ok (.invokevirtual 65, 3) := by decide +kernel
theorem md_K_comesBefore_4 : decode mc_K_comesBefore 4 = .ok (.istore_n 2, 1) := by decide +kernel
theorem md_K_comesBefore_5 : decode mc_K_comesBefore 5 = .ok (.aload_n 1, 1) := by decide +kernel
theorem md_K_comesBefore_6 : decode mc_K_comesBefore 6 = .ok (.invokevirtual 65, 3) := by decide +kernel
theorem md_K_comesBefore_9 : decode mc_K_comesBefore 9 = .ok (.istore_n 3, 1) := by decide +kernel
theorem md_K_comesBefore_10 : decode mc_K_comesBefore 10 = .ok (.iload_n 2, 1) := by decide +kernel
theorem md_K_comesBefore_11 : decode mc_K_comesBefore 11 = .ok (.iload_n 3, 1) := by decide +kernel
theorem md_K_comesBefore_12 : decode mc_K_comesBefore 12 = .ok (.if_icmp .gt 27, 3) := by decide +kernel
theorem md_K_comesBefore_15 : decode mc_K_comesBefore 15 = .ok (.iload_n 2, 1) := by decide +kernel
theorem md_K_comesBefore_16 : decode mc_K_comesBefore 16 = .ok (.iload_n 3, 1) := by decide +kernel
theorem md_K_comesBefore_17 : decode mc_K_comesBefore 17 = .ok (.if_icmp .ne 26, 3) := by decide +kernel
theorem md_K_comesBefore_20 : decode mc_K_comesBefore 20 = .ok (.aload_n 1, 1) := by decide +kernel
theorem md_K_comesBefore_21 : decode mc_K_comesBefore 21 = .ok (.getfield 24, 3) := by decide +kernel
theorem md_K_comesBefore_24 : decode mc_K_comesBefore 24 = .ok (.iconst 2, 1) := by decide +kernel
theorem md_K_comesBefore_25 : decode mc_K_comesBefore 25 = .ok (.if_icmp .eq 18, 3) := by decide +kernel
theorem md_K_comesBefore_28 : decode mc_K_comesBefore 28 = .ok (.aload_n 0, 1) := by decide +kernel
theorem md_K_comesBefore_29 : decode mc_K_comesBefore 29 = .ok (.getfield 69, 3) := by decide +kernel
theorem md_K_comesBefore_32 : decode mc_K_comesBefore 32 = .ok (.aload_n 1, 1) := by decide +kernel
theorem md_K_comesBefore_33 : decode mc_K_comesBefore 33 = .ok (.getfield 69, 3) := by decide +kernel
theorem md_K_comesBefore_36 : decode mc_K_comesBefore 36 = .ok (.if_icmp .ge 7, 3) := by decide +kernel
theorem md_K_comesBefore_39 : decode mc_K_comesBefore 39 = .ok (.iconst 1, 1) := by decide +kernel
theorem md_K_comesBefore_40 : decode mc_K_comesBefore 40 = .ok (.goto 4, 3) := by decide +kernel
theorem md_K_comesBefore_43 : decode mc_K_comesBefore 43 = .ok (.iconst 0, 1) := by decide +kernel
theorem md_K_comesBefore_44 : decode mc_K_comesBefore 44 = .ok (.ireturn, 1) := by decide +kernel
theorem md_K_leftOfPart_0 : decode mc_K_leftOfPart 0 = .ok (.aload_n 0, 1) := by decide +kernel
theorem md_K_leftOfPart_1 : decode mc_K_leftOfPart 1 = .ok (.getfield 72, 3) := by decide +kernel
theorem md_K_leftOfPart_4 : decode mc_K_leftOfPart 4 = .ok (.ifnull 28, 3) := by decide +kernel
theorem md_K_leftOfPart_7 : decode mc_K_leftOfPart 7 = .ok (.aload_n 0, 1) := by decide +kernel
theorem md_K_leftOfPart_8 : decode mc_K_leftOfPart 8 = .ok (.getfield 72, 3) := by decide +kernel
theorem md_K_leftOfPart_11 : decode mc_K_leftOfPart 11 = .ok (.getfield 75, 3) := by decide +kernel
theorem md_K_leftOfPart_14 : decode mc_K_leftOfPart 14 = .ok (.ifCond .ne 18, 3) := by decide +kernel
theorem md_K_leftOfPart_17 : decode mc_K_leftOfPart 17 = .ok (.aload_n 0, 1) := by decide +kernel
theorem md_K_leftOfPart_18 : decode mc_K_leftOfPart 18 = .ok (.getfield 72, 3) := by decide +kernel
theorem md_K_leftOfPart_21 : decode mc_K_leftOfPart 21 = .ok (.getfield 78, 3) := by decide +kernel
theorem md_K_leftOfPart_24 : decode mc_K_leftOfPart 24 = .ok (.aload_n 0, 1) := by decide +kernel
theorem md_K_leftOfPart_25 : decode mc_K_leftOfPart 25 = .ok (.getfield 81, 3) := by decide +kernel
theorem md_K_leftOfPart_28 : decode mc_K_leftOfPart 28 = .ok (.isub, 1) := by decide +kernel
theorem md_K_leftOfPart_29 : decode mc_K_leftOfPart 29 = .ok (.goto 5, 3) := by decide +kernel
theorem md_K_leftOfPart_32 : decode mc_K_leftOfPart 32 = .ok (.ldc 84, 2) := by decide +kernel
theorem md_K_leftOfPart_34 : decode mc_K_leftOfPart 34 = .ok (.ireturn, 1) := by decide +kernel
theorem md_K_spend_0 : decode mc_K_spend 0 = .ok (.aload_n 0, 1) := by decide +kernel
theorem md_K_spend_1 : decode mc_K_spend 1 = .ok (.dup, 1) := by decide +kernel
theorem md_K_spend_2 : decode mc_K_spend 2 = .ok (.getfield 85, 3) := by decide +kernel
theorem md_K_spend_5 : decode mc_K_spend 5 = .ok (.iload_n 1, 1) := by decide +kernel
theorem md_K_spend_6 : decode mc_K_spend 6 = .ok (.iadd, 1) := by decide +kernel
theorem md_K_spend_7 : decode mc_K_spend 7 = .ok (.putfield 85, 3) := by decide +kernel
theorem md_K_spend_10 : decode mc_K_spend 10 = .ok (.aload_n 0, 1) := by decide +kernel
theorem md_K_spend_11 : decode mc_K_spend 11 = .ok (.getfield 72, 3) := by decide +kernel
theorem md_K_spend_14 : decode mc_K_spend 14 = .ok (.ifnull 13, 3) := by decide +kernel
theorem md_K_spend_17 : decode mc_K_spend 17 = .ok (.aload_n 0, 1) := by decide +kernel
theorem md_K_spend_18 : decode mc_K_spend 18 = .ok (.getfield 72, 3) := by decide +kernel
theorem md_K_spend_21 : decode mc_K_spend 21 = .ok (.getfield 75, 3) := by decide +kernel
theorem md_K_spend_24 : decode mc_K_spend 24 = .ok (.ifCond .eq 4, 3) := by decide +kernel
theorem md_K_spend_27 : decode mc_K_spend 27 = .ok (.return_, 1) := by decide +kernel
theorem md_K_spend_28 : decode mc_K_spend 28 = .ok (.aload_n 0, 1) := by decide +kernel
theorem md_K_spend_29 : decode mc_K_spend 29 = .ok (.dup, 1) := by decide +kernel
theorem md_K_spend_30 : decode mc_K_spend 30 = .ok (.getfield 81, 3) := by decide +kernel
theorem md_K_spend_33 : decode mc_K_spend 33 = .ok (.iload_n 1, 1) := by decide +kernel
theorem md_K_spend_34 : decode mc_K_spend 34 = .ok (.iadd, 1) := by decide +kernel
theorem md_K_spend_35 : decode mc_K_spend 35 = .ok (.putfield 81, 3) := by decide +kernel
theorem md_K_spend_38 : decode mc_K_spend 38 = .ok (.aload_n 0, 1) := by decide +kernel
theorem md_K_spend_39 : decode mc_K_spend 39 = .ok (.getfield 81, 3) := by decide +kernel
theorem md_K_spend_42 : decode mc_K_spend 42 = .ok (.aload_n 0, 1) := by decide +kernel
theorem md_K_spend_43 : decode mc_K_spend 43 = .ok (.getfield 72, 3) := by decide +kernel
theorem md_K_spend_46 : decode mc_K_spend 46 = .ok (.getfield 78, 3) := by decide +kernel
theorem md_K_spend_49 : decode mc_K_spend 49 = .ok (.if_icmp .lt 19, 3) := by decide +kernel
theorem md_K_spend_52 : decode mc_K_spend 52 = .ok (.aload_n 0, 1) := by decide +kernel
theorem md_K_spend_53 : decode mc_K_spend 53 = .ok (.aload_n 0, 1) := by decide +kernel
theorem md_K_spend_54 : decode mc_K_spend 54 = .ok (.getfield 72, 3) := by decide +kernel
theorem md_K_spend_57 : decode mc_K_spend 57 = .ok (.getfield 44, 3) := by decide +kernel
theorem md_K_spend_60 : decode mc_K_spend 60 = .ok (.putfield 72, 3) := by decide +kernel
theorem md_K_spend_63 : decode mc_K_spend 63 = .ok (.aload_n 0, 1) := by decide +kernel
theorem md_K_spend_64 : decode mc_K_spend 64 = .ok (.iconst 0, 1) := by decide +kernel
theorem md_K_spend_65 : decode mc_K_spend 65 = .ok (.putfield 81, 3) := by decide +kernel
theorem md_K_spend_68 : decode mc_K_spend 68 = .ok (.return_, 1) := by decide +kernel
theorem md_E_init_0 : decode mc_E_init 0 = .ok (.aload_n 0, 1) := by decide +kernel
theorem md_E_init_1 : decode mc_E_init 1 = .ok (.invokespecial 1, 3) := by decide +kernel
theorem md_E_init_4 : decode mc_E_init 4 = .ok (.aload_n 0, 1) := by decide +kernel
theorem md_E_init_5 : decode mc_E_init 5 = .ok (.aload_n 1, 1) := by decide +kernel
theorem md_E_init_6 : decode mc_E_init 6 = .ok (.putfield 7, 3) := by decide +kernel
theorem md_E_init_9 : decode mc_E_init 9 = .ok (.aload_n 0, 1) := by decide +kernel
theorem md_E_init_10 : decode mc_E_init 10 = .ok (.iload_n 2, 1) := by decide +kernel
theorem md_E_init_11 : decode mc_E_init 11 = .ok (.putfield 13, 3) := by decide +kernel
theorem md_E_init_14 : decode mc_E_init 14 = .ok (.return_, 1) := by decide +kernel
theorem md_W_cell_0 : decode mc_W_cell 0 = .ok (.iload_n 1, 1) := by decide +kernel
theorem md_W_cell_1 : decode mc_W_cell 1 = .ok (.aload_n 0, 1) := by decide +kernel
theorem md_W_cell_2 : decode mc_W_cell 2 = .ok (.arraylength, 1) := by decide +kernel
theorem md_W_cell_3 : decode mc_W_cell 3 = .ok (.if_icmp .ge 9, 3) := by decide +kernel
theorem md_W_cell_6 : decode mc_W_cell 6 = .ok (.aload_n 0, 1) := by decide +kernel
theorem md_W_cell_7 : decode mc_W_cell 7 = .ok (.iload_n 1, 1) := by decide +kernel
theorem md_W_cell_8 : decode mc_W_cell 8 = .ok (.iaload, 1) := by decide +kernel
theorem md_W_cell_9 : decode mc_W_cell 9 = .ok (.goto 4, 3) := by decide +kernel
theorem md_W_cell_12 : decode mc_W_cell 12 = .ok (.iconst 0, 1) := by decide +kernel
theorem md_W_cell_13 : decode mc_W_cell 13 = .ok (.ireturn, 1) := by decide +kernel
theorem md_W_law_0 : decode mc_W_law 0 = .ok (.new 7, 3) := by decide +kernel
theorem md_W_law_3 : decode mc_W_law 3 = .ok (.dup, 1) := by decide +kernel
theorem md_W_law_4 : decode mc_W_law 4 = .ok (.aload_n 0, 1) := by decide +kernel
theorem md_W_law_5 : decode mc_W_law 5 = .ok (.iconst 0, 1) := by decide +kernel
theorem md_W_law_6 : decode mc_W_law 6 = .ok (.invokestatic 9, 3) := by decide +kernel
theorem md_W_law_9 : decode mc_W_law 9 = .ok (.invokespecial 15, 3) := by decide +kernel
theorem md_W_law_12 : decode mc_W_law 12 = .ok (.astore_n 1, 1) := by decide +kernel
theorem md_W_law_13 : decode mc_W_law 13 = .ok (.new 18, 3) := by decide +kernel
theorem md_W_law_16 : decode mc_W_law 16 = .ok (.dup, 1) := by decide +kernel
theorem md_W_law_17 : decode mc_W_law 17 = .ok (.aload_n 0, 1) := by decide +kernel
theorem md_W_law_18 : decode mc_W_law 18 = .ok (.iconst 0, 1) := by decide +kernel
theorem md_W_law_19 : decode mc_W_law 19 = .ok (.invokestatic 9, 3) := by decide +kernel
theorem md_W_law_22 : decode mc_W_law 22 = .ok (.invokespecial 20, 3) := by decide +kernel
theorem md_W_law_25 : decode mc_W_law 25 = .ok (.astore_n 2, 1) := by decide +kernel
theorem md_W_law_26 : decode mc_W_law 26 = .ok (.iconst 1, 1) := by decide +kernel
theorem md_W_law_27 : decode mc_W_law 27 = .ok (.istore_n 3, 1) := by decide +kernel
theorem md_W_law_28 : decode mc_W_law 28 = .ok (.iload_n 3, 1) := by decide +kernel
theorem md_W_law_29 : decode mc_W_law 29 = .ok (.aload_n 0, 1) := by decide +kernel
theorem md_W_law_30 : decode mc_W_law 30 = .ok (.arraylength, 1) := by decide +kernel
theorem md_W_law_31 : decode mc_W_law 31 = .ok (.bipush 6, 2) := by decide +kernel
theorem md_W_law_33 : decode mc_W_law 33 = .ok (.isub, 1) := by decide +kernel
theorem md_W_law_34 : decode mc_W_law 34 = .ok (.if_icmp .gt 804, 3) := by decide +kernel
theorem md_W_law_37 : decode mc_W_law 37 = .ok (.aload_n 0, 1) := by decide +kernel
theorem md_W_law_38 : decode mc_W_law 38 = .ok (.iload_n 3, 1) := by decide +kernel
theorem md_W_law_39 : decode mc_W_law 39 = .ok (.iaload, 1) := by decide +kernel
theorem md_W_law_40 : decode mc_W_law 40 = .ok (.bipush 15, 2) := by decide +kernel
theorem md_W_law_42 : decode mc_W_law 42 = .ok (.iand, 1) := by decide +kernel
theorem md_W_law_43 : decode mc_W_law 43 = .ok (.tableswitch 789 0 15 #[77, 146, 219, 268, 331, 434, 487, 501, 564, 588, 611, 644, 667, 700, 733, 766], 77) := by decide +kernel
theorem md_W_law_120 : decode mc_W_law 120 = .ok (.aload_n 1, 1) := by decide +kernel
theorem md_W_law_121 : decode mc_W_law 121 = .ok (.aload_n 0, 1) := by decide +kernel
theorem md_W_law_122 : decode mc_W_law 122 = .ok (.iload_n 3, 1) := by decide +kernel
theorem md_W_law_123 : decode mc_W_law 123 = .ok (.iconst 1, 1) := by decide +kernel
theorem md_W_law_124 : decode mc_W_law 124 = .ok (.iadd, 1) := by decide +kernel
theorem md_W_law_125 : decode mc_W_law 125 = .ok (.iaload, 1) := by decide +kernel
theorem md_W_law_126 : decode mc_W_law 126 = .ok (.aload_n 0, 1) := by decide +kernel
theorem md_W_law_127 : decode mc_W_law 127 = .ok (.iload_n 3, 1) := by decide +kernel
theorem md_W_law_128 : decode mc_W_law 128 = .ok (.iconst 2, 1) := by decide +kernel
theorem md_W_law_129 : decode mc_W_law 129 = .ok (.iadd, 1) := by decide +kernel
theorem md_W_law_130 : decode mc_W_law 130 = .ok (.iaload, 1) := by decide +kernel
theorem md_W_law_131 : decode mc_W_law 131 = .ok (.aload_n 0, 1) := by decide +kernel
theorem md_W_law_132 : decode mc_W_law 132 = .ok (.iload_n 3, 1) := by decide +kernel
theorem md_W_law_133 : decode mc_W_law 133 = .ok (.iconst 3, 1) := by decide +kernel
theorem md_W_law_134 : decode mc_W_law 134 = .ok (.iadd, 1) := by decide +kernel
theorem md_W_law_135 : decode mc_W_law 135 = .ok (.iaload, 1) := by decide +kernel
theorem md_W_law_136 : decode mc_W_law 136 = .ok (.aload_n 0, 1) := by decide +kernel
theorem md_W_law_137 : decode mc_W_law 137 = .ok (.iload_n 3, 1) := by decide +kernel
theorem md_W_law_138 : decode mc_W_law 138 = .ok (.iconst 4, 1) := by decide +kernel
theorem md_W_law_139 : decode mc_W_law 139 = .ok (.iadd, 1) := by decide +kernel
theorem md_W_law_140 : decode mc_W_law 140 = .ok (.iaload, 1) := by decide +kernel
theorem md_W_law_141 : decode mc_W_law 141 = .ok (.ifCond .eq 7, 3) := by decide +kernel
theorem md_W_law_144 : decode mc_W_law 144 = .ok (.iconst 1, 1) := by decide +kernel
theorem md_W_law_145 : decode mc_W_law 145 = .ok (.goto 4, 3) := by decide +kernel
theorem md_W_law_148 : decode mc_W_law 148 = .ok (.iconst 0, 1) := by decide +kernel
theorem md_W_law_149 : decode mc_W_law 149 = .ok (.invokevirtual 21, 3) := by decide +kernel
theorem md_W_law_152 : decode mc_W_law 152 = .ok (.aload_n 2, 1) := by decide +kernel
theorem md_W_law_153 : decode mc_W_law 153 = .ok (.aload_n 0, 1) := by decide +kernel
theorem md_W_law_154 : decode mc_W_law 154 = .ok (.iload_n 3, 1) := by decide +kernel
theorem md_W_law_155 : decode mc_W_law 155 = .ok (.iconst 1, 1) := by decide +kernel
theorem md_W_law_156 : decode mc_W_law 156 = .ok (.iadd, 1) := by decide +kernel
theorem md_W_law_157 : decode mc_W_law 157 = .ok (.iaload, 1) := by decide +kernel
theorem md_W_law_158 : decode mc_W_law 158 = .ok (.aload_n 0, 1) := by decide +kernel
theorem md_W_law_159 : decode mc_W_law 159 = .ok (.iload_n 3, 1) := by decide +kernel
theorem md_W_law_160 : decode mc_W_law 160 = .ok (.iconst 2, 1) := by decide +kernel
theorem md_W_law_161 : decode mc_W_law 161 = .ok (.iadd, 1) := by decide +kernel
theorem md_W_law_162 : decode mc_W_law 162 = .ok (.iaload, 1) := by decide +kernel
theorem md_W_law_163 : decode mc_W_law 163 = .ok (.aload_n 0, 1) := by decide +kernel
theorem md_W_law_164 : decode mc_W_law 164 = .ok (.iload_n 3, 1) := by decide +kernel
theorem md_W_law_165 : decode mc_W_law 165 = .ok (.iconst 3, 1) := by decide +kernel
theorem md_W_law_166 : decode mc_W_law 166 = .ok (.iadd, 1) := by decide +kernel
theorem md_W_law_167 : decode mc_W_law 167 = .ok (.iaload, 1) := by decide +kernel
theorem md_W_law_168 : decode mc_W_law 168 = .ok (.aload_n 0, 1) := by decide +kernel
theorem md_W_law_169 : decode mc_W_law 169 = .ok (.iload_n 3, 1) := by decide +kernel
theorem md_W_law_170 : decode mc_W_law 170 = .ok (.iconst 4, 1) := by decide +kernel
theorem md_W_law_171 : decode mc_W_law 171 = .ok (.iadd, 1) := by decide +kernel
theorem md_W_law_172 : decode mc_W_law 172 = .ok (.iaload, 1) := by decide +kernel
theorem md_W_law_173 : decode mc_W_law 173 = .ok (.ifCond .eq 7, 3) := by decide +kernel
theorem md_W_law_176 : decode mc_W_law 176 = .ok (.iconst 1, 1) := by decide +kernel
theorem md_W_law_177 : decode mc_W_law 177 = .ok (.goto 4, 3) := by decide +kernel
theorem md_W_law_180 : decode mc_W_law 180 = .ok (.iconst 0, 1) := by decide +kernel
theorem md_W_law_181 : decode mc_W_law 181 = .ok (.invokevirtual 25, 3) := by decide +kernel
theorem md_W_law_184 : decode mc_W_law 184 = .ok (.if_icmp .eq 648, 3) := by decide +kernel
theorem md_W_law_187 : decode mc_W_law 187 = .ok (.iconst 0, 1) := by decide +kernel
theorem md_W_law_188 : decode mc_W_law 188 = .ok (.ireturn, 1) := by decide +kernel
theorem md_W_law_189 : decode mc_W_law 189 = .ok (.aload_n 1, 1) := by decide +kernel
theorem md_W_law_190 : decode mc_W_law 190 = .ok (.aload_n 0, 1) := by decide +kernel
theorem md_W_law_191 : decode mc_W_law 191 = .ok (.iload_n 3, 1) := by decide +kernel
theorem md_W_law_192 : decode mc_W_law 192 = .ok (.iconst 1, 1) := by decide +kernel
theorem md_W_law_193 : decode mc_W_law 193 = .ok (.iadd, 1) := by decide +kernel
theorem md_W_law_194 : decode mc_W_law 194 = .ok (.iaload, 1) := by decide +kernel
theorem md_W_law_195 : decode mc_W_law 195 = .ok (.aload_n 0, 1) := by decide +kernel
theorem md_W_law_196 : decode mc_W_law 196 = .ok (.iload_n 3, 1) := by decide +kernel
theorem md_W_law_197 : decode mc_W_law 197 = .ok (.iconst 2, 1) := by decide +kernel
theorem md_W_law_198 : decode mc_W_law 198 = .ok (.iadd, 1) := by decide +kernel
theorem md_W_law_199 : decode mc_W_law 199 = .ok (.iaload, 1) := by decide +kernel
theorem md_W_law_200 : decode mc_W_law 200 = .ok (.aload_n 0, 1) := by decide +kernel
theorem md_W_law_201 : decode mc_W_law 201 = .ok (.iload_n 3, 1) := by decide +kernel
theorem md_W_law_202 : decode mc_W_law 202 = .ok (.iconst 3, 1) := by decide +kernel
theorem md_W_law_203 : decode mc_W_law 203 = .ok (.iadd, 1) := by decide +kernel
theorem md_W_law_204 : decode mc_W_law 204 = .ok (.iaload, 1) := by decide +kernel
theorem md_W_law_205 : decode mc_W_law 205 = .ok (.i2l, 1) := by decide +kernel
theorem md_W_law_206 : decode mc_W_law 206 = .ok (.bipush 32, 2) := by decide +kernel
theorem md_W_law_208 : decode mc_W_law 208 = .ok (.lshl, 1) := by decide +kernel
theorem md_W_law_209 : decode mc_W_law 209 = .ok (.aload_n 0, 1) := by decide +kernel
theorem md_W_law_210 : decode mc_W_law 210 = .ok (.iload_n 3, 1) := by decide +kernel
theorem md_W_law_211 : decode mc_W_law 211 = .ok (.iconst 4, 1) := by decide +kernel
theorem md_W_law_212 : decode mc_W_law 212 = .ok (.iadd, 1) := by decide +kernel
theorem md_W_law_213 : decode mc_W_law 213 = .ok (.iaload, 1) := by decide +kernel
theorem md_W_law_214 : decode mc_W_law 214 = .ok (.i2l, 1) := by decide +kernel
theorem md_W_law_215 : decode mc_W_law 215 = .ok (.ldc2_w 26, 3) := by decide +kernel
theorem md_W_law_218 : decode mc_W_law 218 = .ok (.land, 1) := by decide +kernel
theorem md_W_law_219 : decode mc_W_law 219 = .ok (.lor, 1) := by decide +kernel
theorem md_W_law_220 : decode mc_W_law 220 = .ok (.invokevirtual 28, 3) := by decide +kernel
theorem md_W_law_223 : decode mc_W_law 223 = .ok (.aload_n 2, 1) := by decide +kernel
theorem md_W_law_224 : decode mc_W_law 224 = .ok (.aload_n 0, 1) := by decide +kernel
theorem md_W_law_225 : decode mc_W_law 225 = .ok (.iload_n 3, 1) := by decide +kernel
theorem md_W_law_226 : decode mc_W_law 226 = .ok (.iconst 1, 1) := by decide +kernel
theorem md_W_law_227 : decode mc_W_law 227 = .ok (.iadd, 1) := by decide +kernel
theorem md_W_law_228 : decode mc_W_law 228 = .ok (.iaload, 1) := by decide +kernel
theorem md_W_law_229 : decode mc_W_law 229 = .ok (.aload_n 0, 1) := by decide +kernel
theorem md_W_law_230 : decode mc_W_law 230 = .ok (.iload_n 3, 1) := by decide +kernel
theorem md_W_law_231 : decode mc_W_law 231 = .ok (.iconst 2, 1) := by decide +kernel
theorem md_W_law_232 : decode mc_W_law 232 = .ok (.iadd, 1) := by decide +kernel
theorem md_W_law_233 : decode mc_W_law 233 = .ok (.iaload, 1) := by decide +kernel
theorem md_W_law_234 : decode mc_W_law 234 = .ok (.aload_n 0, 1) := by decide +kernel
theorem md_W_law_235 : decode mc_W_law 235 = .ok (.iload_n 3, 1) := by decide +kernel
theorem md_W_law_236 : decode mc_W_law 236 = .ok (.iconst 3, 1) := by decide +kernel
theorem md_W_law_237 : decode mc_W_law 237 = .ok (.iadd, 1) := by decide +kernel
theorem md_W_law_238 : decode mc_W_law 238 = .ok (.iaload, 1) := by decide +kernel
theorem md_W_law_239 : decode mc_W_law 239 = .ok (.i2l, 1) := by decide +kernel
theorem md_W_law_240 : decode mc_W_law 240 = .ok (.bipush 32, 2) := by decide +kernel
theorem md_W_law_242 : decode mc_W_law 242 = .ok (.lshl, 1) := by decide +kernel
theorem md_W_law_243 : decode mc_W_law 243 = .ok (.aload_n 0, 1) := by decide +kernel
theorem md_W_law_244 : decode mc_W_law 244 = .ok (.iload_n 3, 1) := by decide +kernel
theorem md_W_law_245 : decode mc_W_law 245 = .ok (.iconst 4, 1) := by decide +kernel
theorem md_W_law_246 : decode mc_W_law 246 = .ok (.iadd, 1) := by decide +kernel
theorem md_W_law_247 : decode mc_W_law 247 = .ok (.iaload, 1) := by decide +kernel
theorem md_W_law_248 : decode mc_W_law 248 = .ok (.i2l, 1) := by decide +kernel
theorem md_W_law_249 : decode mc_W_law 249 = .ok (.ldc2_w 26, 3) := by decide +kernel
theorem md_W_law_252 : decode mc_W_law 252 = .ok (.land, 1) := by decide +kernel
theorem md_W_law_253 : decode mc_W_law 253 = .ok (.lor, 1) := by decide +kernel
theorem md_W_law_254 : decode mc_W_law 254 = .ok (.invokevirtual 32, 3) := by decide +kernel
theorem md_W_law_257 : decode mc_W_law 257 = .ok (.if_icmp .eq 575, 3) := by decide +kernel
theorem md_W_law_260 : decode mc_W_law 260 = .ok (.iconst 0, 1) := by decide +kernel
theorem md_W_law_261 : decode mc_W_law 261 = .ok (.ireturn, 1) := by decide +kernel
theorem md_W_law_262 : decode mc_W_law 262 = .ok (.aload_n 1, 1) := by decide +kernel
theorem md_W_law_263 : decode mc_W_law 263 = .ok (.aload_n 0, 1) := by decide +kernel
theorem md_W_law_264 : decode mc_W_law 264 = .ok (.iload_n 3, 1) := by decide +kernel
theorem md_W_law_265 : decode mc_W_law 265 = .ok (.iconst 1, 1) := by decide +kernel
theorem md_W_law_266 : decode mc_W_law 266 = .ok (.iadd, 1) := by decide +kernel
theorem md_W_law_267 : decode mc_W_law 267 = .ok (.iaload, 1) := by decide +kernel
theorem md_W_law_268 : decode mc_W_law 268 = .ok (.aload_n 0, 1) := by decide +kernel
theorem md_W_law_269 : decode mc_W_law 269 = .ok (.iload_n 3, 1) := by decide +kernel
theorem md_W_law_270 : decode mc_W_law 270 = .ok (.iconst 2, 1) := by decide +kernel
theorem md_W_law_271 : decode mc_W_law 271 = .ok (.iadd, 1) := by decide +kernel
theorem md_W_law_272 : decode mc_W_law 272 = .ok (.iaload, 1) := by decide +kernel
theorem md_W_law_273 : decode mc_W_law 273 = .ok (.ifCond .eq 7, 3) := by decide +kernel
theorem md_W_law_276 : decode mc_W_law 276 = .ok (.iconst 1, 1) := by decide +kernel
theorem md_W_law_277 : decode mc_W_law 277 = .ok (.goto 4, 3) := by decide +kernel
theorem md_W_law_280 : decode mc_W_law 280 = .ok (.iconst 0, 1) := by decide +kernel
theorem md_W_law_281 : decode mc_W_law 281 = .ok (.invokevirtual 33, 3) := by decide +kernel
theorem md_W_law_284 : decode mc_W_law 284 = .ok (.aload_n 2, 1) := by decide +kernel
theorem md_W_law_285 : decode mc_W_law 285 = .ok (.aload_n 0, 1) := by decide +kernel
theorem md_W_law_286 : decode mc_W_law 286 = .ok (.iload_n 3, 1) := by decide +kernel
theorem md_W_law_287 : decode mc_W_law 287 = .ok (.iconst 1, 1) := by decide +kernel
theorem md_W_law_288 : decode mc_W_law 288 = .ok (.iadd, 1) := by decide +kernel
theorem md_W_law_289 : decode mc_W_law 289 = .ok (.iaload, 1) := by decide +kernel
theorem md_W_law_290 : decode mc_W_law 290 = .ok (.aload_n 0, 1) := by decide +kernel
theorem md_W_law_291 : decode mc_W_law 291 = .ok (.iload_n 3, 1) := by decide +kernel
theorem md_W_law_292 : decode mc_W_law 292 = .ok (.iconst 2, 1) := by decide +kernel
theorem md_W_law_293 : decode mc_W_law 293 = .ok (.iadd, 1) := by decide +kernel
theorem md_W_law_294 : decode mc_W_law 294 = .ok (.iaload, 1) := by decide +kernel
theorem md_W_law_295 : decode mc_W_law 295 = .ok (.ifCond .eq 7, 3) := by decide +kernel
theorem md_W_law_298 : decode mc_W_law 298 = .ok (.iconst 1, 1) := by decide +kernel
theorem md_W_law_299 : decode mc_W_law 299 = .ok (.goto 4, 3) := by decide +kernel
theorem md_W_law_302 : decode mc_W_law 302 = .ok (.iconst 0, 1) := by decide +kernel
theorem md_W_law_303 : decode mc_W_law 303 = .ok (.invokevirtual 37, 3) := by decide +kernel
theorem md_W_law_306 : decode mc_W_law 306 = .ok (.if_icmp .eq 526, 3) := by decide +kernel
theorem md_W_law_309 : decode mc_W_law 309 = .ok (.iconst 0, 1) := by decide +kernel
theorem md_W_law_310 : decode mc_W_law 310 = .ok (.ireturn, 1) := by decide +kernel
theorem md_W_law_311 : decode mc_W_law 311 = .ok (.aload_n 1, 1) := by decide +kernel
theorem md_W_law_312 : decode mc_W_law 312 = .ok (.aload_n 0, 1) := by decide +kernel
theorem md_W_law_313 : decode mc_W_law 313 = .ok (.iload_n 3, 1) := by decide +kernel
theorem md_W_law_314 : decode mc_W_law 314 = .ok (.iconst 1, 1) := by decide +kernel
theorem md_W_law_315 : decode mc_W_law 315 = .ok (.iadd, 1) := by decide +kernel
theorem md_W_law_316 : decode mc_W_law 316 = .ok (.iaload, 1) := by decide +kernel
theorem md_W_law_317 : decode mc_W_law 317 = .ok (.aload_n 0, 1) := by decide +kernel
theorem md_W_law_318 : decode mc_W_law 318 = .ok (.iload_n 3, 1) := by decide +kernel
theorem md_W_law_319 : decode mc_W_law 319 = .ok (.iconst 2, 1) := by decide +kernel
theorem md_W_law_320 : decode mc_W_law 320 = .ok (.iadd, 1) := by decide +kernel
theorem md_W_law_321 : decode mc_W_law 321 = .ok (.iaload, 1) := by decide +kernel
theorem md_W_law_322 : decode mc_W_law 322 = .ok (.i2l, 1) := by decide +kernel
theorem md_W_law_323 : decode mc_W_law 323 = .ok (.bipush 32, 2) := by decide +kernel
theorem md_W_law_325 : decode mc_W_law 325 = .ok (.lshl, 1) := by decide +kernel
theorem md_W_law_326 : decode mc_W_law 326 = .ok (.aload_n 0, 1) := by decide +kernel
theorem md_W_law_327 : decode mc_W_law 327 = .ok (.iload_n 3, 1) := by decide +kernel
theorem md_W_law_328 : decode mc_W_law 328 = .ok (.iconst 3, 1) := by decide +kernel
theorem md_W_law_329 : decode mc_W_law 329 = .ok (.iadd, 1) := by decide +kernel
theorem md_W_law_330 : decode mc_W_law 330 = .ok (.iaload, 1) := by decide +kernel
theorem md_W_law_331 : decode mc_W_law 331 = .ok (.i2l, 1) := by decide +kernel
theorem md_W_law_332 : decode mc_W_law 332 = .ok (.ldc2_w 26, 3) := by decide +kernel
theorem md_W_law_335 : decode mc_W_law 335 = .ok (.land, 1) := by decide +kernel
theorem md_W_law_336 : decode mc_W_law 336 = .ok (.lor, 1) := by decide +kernel
theorem md_W_law_337 : decode mc_W_law 337 = .ok (.invokevirtual 38, 3) := by decide +kernel
theorem md_W_law_340 : decode mc_W_law 340 = .ok (.aload_n 2, 1) := by decide +kernel
theorem md_W_law_341 : decode mc_W_law 341 = .ok (.aload_n 0, 1) := by decide +kernel
theorem md_W_law_342 : decode mc_W_law 342 = .ok (.iload_n 3, 1) := by decide +kernel
theorem md_W_law_343 : decode mc_W_law 343 = .ok (.iconst 1, 1) := by decide +kernel
theorem md_W_law_344 : decode mc_W_law 344 = .ok (.iadd, 1) := by decide +kernel
theorem md_W_law_345 : decode mc_W_law 345 = .ok (.iaload, 1) := by decide +kernel
theorem md_W_law_346 : decode mc_W_law 346 = .ok (.aload_n 0, 1) := by decide +kernel
theorem md_W_law_347 : decode mc_W_law 347 = .ok (.iload_n 3, 1) := by decide +kernel
theorem md_W_law_348 : decode mc_W_law 348 = .ok (.iconst 2, 1) := by decide +kernel
theorem md_W_law_349 : decode mc_W_law 349 = .ok (.iadd, 1) := by decide +kernel
theorem md_W_law_350 : decode mc_W_law 350 = .ok (.iaload, 1) := by decide +kernel
theorem md_W_law_351 : decode mc_W_law 351 = .ok (.i2l, 1) := by decide +kernel
theorem md_W_law_352 : decode mc_W_law 352 = .ok (.bipush 32, 2) := by decide +kernel
theorem md_W_law_354 : decode mc_W_law 354 = .ok (.lshl, 1) := by decide +kernel
theorem md_W_law_355 : decode mc_W_law 355 = .ok (.aload_n 0, 1) := by decide +kernel
theorem md_W_law_356 : decode mc_W_law 356 = .ok (.iload_n 3, 1) := by decide +kernel
theorem md_W_law_357 : decode mc_W_law 357 = .ok (.iconst 3, 1) := by decide +kernel
theorem md_W_law_358 : decode mc_W_law 358 = .ok (.iadd, 1) := by decide +kernel
theorem md_W_law_359 : decode mc_W_law 359 = .ok (.iaload, 1) := by decide +kernel
theorem md_W_law_360 : decode mc_W_law 360 = .ok (.i2l, 1) := by decide +kernel
theorem md_W_law_361 : decode mc_W_law 361 = .ok (.ldc2_w 26, 3) := by decide +kernel
theorem md_W_law_364 : decode mc_W_law 364 = .ok (.land, 1) := by decide +kernel
theorem md_W_law_365 : decode mc_W_law 365 = .ok (.lor, 1) := by decide +kernel
theorem md_W_law_366 : decode mc_W_law 366 = .ok (.invokevirtual 42, 3) := by decide +kernel
theorem md_W_law_369 : decode mc_W_law 369 = .ok (.if_icmp .eq 463, 3) := by decide +kernel
theorem md_W_law_372 : decode mc_W_law 372 = .ok (.iconst 0, 1) := by decide +kernel
theorem md_W_law_373 : decode mc_W_law 373 = .ok (.ireturn, 1) := by decide +kernel
theorem md_W_law_374 : decode mc_W_law 374 = .ok (.aload_n 1, 1) := by decide +kernel
theorem md_W_law_375 : decode mc_W_law 375 = .ok (.aload_n 0, 1) := by decide +kernel
theorem md_W_law_376 : decode mc_W_law 376 = .ok (.iload_n 3, 1) := by decide +kernel
theorem md_W_law_377 : decode mc_W_law 377 = .ok (.iconst 1, 1) := by decide +kernel
theorem md_W_law_378 : decode mc_W_law 378 = .ok (.iadd, 1) := by decide +kernel
theorem md_W_law_379 : decode mc_W_law 379 = .ok (.iaload, 1) := by decide +kernel
theorem md_W_law_380 : decode mc_W_law 380 = .ok (.aload_n 0, 1) := by decide +kernel
theorem md_W_law_381 : decode mc_W_law 381 = .ok (.iload_n 3, 1) := by decide +kernel
theorem md_W_law_382 : decode mc_W_law 382 = .ok (.iconst 2, 1) := by decide +kernel
theorem md_W_law_383 : decode mc_W_law 383 = .ok (.iadd, 1) := by decide +kernel
theorem md_W_law_384 : decode mc_W_law 384 = .ok (.iaload, 1) := by decide +kernel
theorem md_W_law_385 : decode mc_W_law 385 = .ok (.i2l, 1) := by decide +kernel
theorem md_W_law_386 : decode mc_W_law 386 = .ok (.bipush 32, 2) := by decide +kernel
theorem md_W_law_388 : decode mc_W_law 388 = .ok (.lshl, 1) := by decide +kernel
theorem md_W_law_389 : decode mc_W_law 389 = .ok (.aload_n 0, 1) := by decide +kernel
theorem md_W_law_390 : decode mc_W_law 390 = .ok (.iload_n 3, 1) := by decide +kernel
theorem md_W_law_391 : decode mc_W_law 391 = .ok (.iconst 3, 1) := by decide +kernel
theorem md_W_law_392 : decode mc_W_law 392 = .ok (.iadd, 1) := by decide +kernel
theorem md_W_law_393 : decode mc_W_law 393 = .ok (.iaload, 1) := by decide +kernel
theorem md_W_law_394 : decode mc_W_law 394 = .ok (.i2l, 1) := by decide +kernel
theorem md_W_law_395 : decode mc_W_law 395 = .ok (.ldc2_w 26, 3) := by decide +kernel
theorem md_W_law_398 : decode mc_W_law 398 = .ok (.land, 1) := by decide +kernel
theorem md_W_law_399 : decode mc_W_law 399 = .ok (.lor, 1) := by decide +kernel
theorem md_W_law_400 : decode mc_W_law 400 = .ok (.aload_n 0, 1) := by decide +kernel
theorem md_W_law_401 : decode mc_W_law 401 = .ok (.iload_n 3, 1) := by decide +kernel
theorem md_W_law_402 : decode mc_W_law 402 = .ok (.iconst 4, 1) := by decide +kernel
theorem md_W_law_403 : decode mc_W_law 403 = .ok (.iadd, 1) := by decide +kernel
theorem md_W_law_404 : decode mc_W_law 404 = .ok (.iaload, 1) := by decide +kernel
theorem md_W_law_405 : decode mc_W_law 405 = .ok (.i2l, 1) := by decide +kernel
theorem md_W_law_406 : decode mc_W_law 406 = .ok (.bipush 32, 2) := by decide +kernel
theorem md_W_law_408 : decode mc_W_law 408 = .ok (.lshl, 1) := by decide +kernel
theorem md_W_law_409 : decode mc_W_law 409 = .ok (.aload_n 0, 1) := by decide +kernel
theorem md_W_law_410 : decode mc_W_law 410 = .ok (.iload_n 3, 1) := by decide +kernel
theorem md_W_law_411 : decode mc_W_law 411 = .ok (.iconst 5, 1) := by decide +kernel
theorem md_W_law_412 : decode mc_W_law 412 = .ok (.iadd, 1) := by decide +kernel
theorem md_W_law_413 : decode mc_W_law 413 = .ok (.iaload, 1) := by decide +kernel
theorem md_W_law_414 : decode mc_W_law 414 = .ok (.i2l, 1) := by decide +kernel
theorem md_W_law_415 : decode mc_W_law 415 = .ok (.ldc2_w 26, 3) := by decide +kernel
theorem md_W_law_418 : decode mc_W_law 418 = .ok (.land, 1) := by decide +kernel
theorem md_W_law_419 : decode mc_W_law 419 = .ok (.lor, 1) := by decide +kernel
theorem md_W_law_420 : decode mc_W_law 420 = .ok (.invokevirtual 43, 3) := by decide +kernel
theorem md_W_law_423 : decode mc_W_law 423 = .ok (.aload_n 2, 1) := by decide +kernel
theorem md_W_law_424 : decode mc_W_law 424 = .ok (.aload_n 0, 1) := by decide +kernel
theorem md_W_law_425 : decode mc_W_law 425 = .ok (.iload_n 3, 1) := by decide +kernel
theorem md_W_law_426 : decode mc_W_law 426 = .ok (.iconst 1, 1) := by decide +kernel
theorem md_W_law_427 : decode mc_W_law 427 = .ok (.iadd, 1) := by decide +kernel
theorem md_W_law_428 : decode mc_W_law 428 = .ok (.iaload, 1) := by decide +kernel
theorem md_W_law_429 : decode mc_W_law 429 = .ok (.aload_n 0, 1) := by decide +kernel
theorem md_W_law_430 : decode mc_W_law 430 = .ok (.iload_n 3, 1) := by decide +kernel
theorem md_W_law_431 : decode mc_W_law 431 = .ok (.iconst 2, 1) := by decide +kernel
theorem md_W_law_432 : decode mc_W_law 432 = .ok (.iadd, 1) := by decide +kernel
theorem md_W_law_433 : decode mc_W_law 433 = .ok (.iaload, 1) := by decide +kernel
theorem md_W_law_434 : decode mc_W_law 434 = .ok (.i2l, 1) := by decide +kernel
theorem md_W_law_435 : decode mc_W_law 435 = .ok (.bipush 32, 2) := by decide +kernel
theorem md_W_law_437 : decode mc_W_law 437 = .ok (.lshl, 1) := by decide +kernel
theorem md_W_law_438 : decode mc_W_law 438 = .ok (.aload_n 0, 1) := by decide +kernel
theorem md_W_law_439 : decode mc_W_law 439 = .ok (.iload_n 3, 1) := by decide +kernel
theorem md_W_law_440 : decode mc_W_law 440 = .ok (.iconst 3, 1) := by decide +kernel
theorem md_W_law_441 : decode mc_W_law 441 = .ok (.iadd, 1) := by decide +kernel
theorem md_W_law_442 : decode mc_W_law 442 = .ok (.iaload, 1) := by decide +kernel
theorem md_W_law_443 : decode mc_W_law 443 = .ok (.i2l, 1) := by decide +kernel
theorem md_W_law_444 : decode mc_W_law 444 = .ok (.ldc2_w 26, 3) := by decide +kernel
theorem md_W_law_447 : decode mc_W_law 447 = .ok (.land, 1) := by decide +kernel
theorem md_W_law_448 : decode mc_W_law 448 = .ok (.lor, 1) := by decide +kernel
theorem md_W_law_449 : decode mc_W_law 449 = .ok (.aload_n 0, 1) := by decide +kernel
theorem md_W_law_450 : decode mc_W_law 450 = .ok (.iload_n 3, 1) := by decide +kernel
theorem md_W_law_451 : decode mc_W_law 451 = .ok (.iconst 4, 1) := by decide +kernel
theorem md_W_law_452 : decode mc_W_law 452 = .ok (.iadd, 1) := by decide +kernel
theorem md_W_law_453 : decode mc_W_law 453 = .ok (.iaload, 1) := by decide +kernel
theorem md_W_law_454 : decode mc_W_law 454 = .ok (.i2l, 1) := by decide +kernel
theorem md_W_law_455 : decode mc_W_law 455 = .ok (.bipush 32, 2) := by decide +kernel
theorem md_W_law_457 : decode mc_W_law 457 = .ok (.lshl, 1) := by decide +kernel
theorem md_W_law_458 : decode mc_W_law 458 = .ok (.aload_n 0, 1) := by decide +kernel
theorem md_W_law_459 : decode mc_W_law 459 = .ok (.iload_n 3, 1) := by decide +kernel
theorem md_W_law_460 : decode mc_W_law 460 = .ok (.iconst 5, 1) := by decide +kernel
theorem md_W_law_461 : decode mc_W_law 461 = .ok (.iadd, 1) := by decide +kernel
theorem md_W_law_462 : decode mc_W_law 462 = .ok (.iaload, 1) := by decide +kernel
theorem md_W_law_463 : decode mc_W_law 463 = .ok (.i2l, 1) := by decide +kernel
theorem md_W_law_464 : decode mc_W_law 464 = .ok (.ldc2_w 26, 3) := by decide +kernel
theorem md_W_law_467 : decode mc_W_law 467 = .ok (.land, 1) := by decide +kernel
theorem md_W_law_468 : decode mc_W_law 468 = .ok (.lor, 1) := by decide +kernel
theorem md_W_law_469 : decode mc_W_law 469 = .ok (.invokevirtual 47, 3) := by decide +kernel
theorem md_W_law_472 : decode mc_W_law 472 = .ok (.if_icmp .eq 360, 3) := by decide +kernel
theorem md_W_law_475 : decode mc_W_law 475 = .ok (.iconst 0, 1) := by decide +kernel
theorem md_W_law_476 : decode mc_W_law 476 = .ok (.ireturn, 1) := by decide +kernel
theorem md_W_law_477 : decode mc_W_law 477 = .ok (.aload_n 1, 1) := by decide +kernel
theorem md_W_law_478 : decode mc_W_law 478 = .ok (.aload_n 0, 1) := by decide +kernel
theorem md_W_law_479 : decode mc_W_law 479 = .ok (.iload_n 3, 1) := by decide +kernel
theorem md_W_law_480 : decode mc_W_law 480 = .ok (.iconst 1, 1) := by decide +kernel
theorem md_W_law_481 : decode mc_W_law 481 = .ok (.iadd, 1) := by decide +kernel
theorem md_W_law_482 : decode mc_W_law 482 = .ok (.iaload, 1) := by decide +kernel
theorem md_W_law_483 : decode mc_W_law 483 = .ok (.i2l, 1) := by decide +kernel
theorem md_W_law_484 : decode mc_W_law 484 = .ok (.bipush 32, 2) := by decide +kernel
theorem md_W_law_486 : decode mc_W_law 486 = .ok (.lshl, 1) := by decide +kernel
theorem md_W_law_487 : decode mc_W_law 487 = .ok (.aload_n 0, 1) := by decide +kernel
theorem md_W_law_488 : decode mc_W_law 488 = .ok (.iload_n 3, 1) := by decide +kernel
theorem md_W_law_489 : decode mc_W_law 489 = .ok (.iconst 2, 1) := by decide +kernel
theorem md_W_law_490 : decode mc_W_law 490 = .ok (.iadd, 1) := by decide +kernel
theorem md_W_law_491 : decode mc_W_law 491 = .ok (.iaload, 1) := by decide +kernel
theorem md_W_law_492 : decode mc_W_law 492 = .ok (.i2l, 1) := by decide +kernel
theorem md_W_law_493 : decode mc_W_law 493 = .ok (.ldc2_w 26, 3) := by decide +kernel
theorem md_W_law_496 : decode mc_W_law 496 = .ok (.land, 1) := by decide +kernel
theorem md_W_law_497 : decode mc_W_law 497 = .ok (.lor, 1) := by decide +kernel
theorem md_W_law_498 : decode mc_W_law 498 = .ok (.invokevirtual 48, 3) := by decide +kernel
theorem md_W_law_501 : decode mc_W_law 501 = .ok (.aload_n 2, 1) := by decide +kernel
theorem md_W_law_502 : decode mc_W_law 502 = .ok (.aload_n 0, 1) := by decide +kernel
theorem md_W_law_503 : decode mc_W_law 503 = .ok (.iload_n 3, 1) := by decide +kernel
theorem md_W_law_504 : decode mc_W_law 504 = .ok (.iconst 1, 1) := by decide +kernel
theorem md_W_law_505 : decode mc_W_law 505 = .ok (.iadd, 1) := by decide +kernel
theorem md_W_law_506 : decode mc_W_law 506 = .ok (.iaload, 1) := by decide +kernel
theorem md_W_law_507 : decode mc_W_law 507 = .ok (.i2l, 1) := by decide +kernel
theorem md_W_law_508 : decode mc_W_law 508 = .ok (.bipush 32, 2) := by decide +kernel
theorem md_W_law_510 : decode mc_W_law 510 = .ok (.lshl, 1) := by decide +kernel
theorem md_W_law_511 : decode mc_W_law 511 = .ok (.aload_n 0, 1) := by decide +kernel
theorem md_W_law_512 : decode mc_W_law 512 = .ok (.iload_n 3, 1) := by decide +kernel
theorem md_W_law_513 : decode mc_W_law 513 = .ok (.iconst 2, 1) := by decide +kernel
theorem md_W_law_514 : decode mc_W_law 514 = .ok (.iadd, 1) := by decide +kernel
theorem md_W_law_515 : decode mc_W_law 515 = .ok (.iaload, 1) := by decide +kernel
theorem md_W_law_516 : decode mc_W_law 516 = .ok (.i2l, 1) := by decide +kernel
theorem md_W_law_517 : decode mc_W_law 517 = .ok (.ldc2_w 26, 3) := by decide +kernel
theorem md_W_law_520 : decode mc_W_law 520 = .ok (.land, 1) := by decide +kernel
theorem md_W_law_521 : decode mc_W_law 521 = .ok (.lor, 1) := by decide +kernel
theorem md_W_law_522 : decode mc_W_law 522 = .ok (.invokevirtual 52, 3) := by decide +kernel
theorem md_W_law_525 : decode mc_W_law 525 = .ok (.if_icmp .eq 307, 3) := by decide +kernel
theorem md_W_law_528 : decode mc_W_law 528 = .ok (.iconst 0, 1) := by decide +kernel
theorem md_W_law_529 : decode mc_W_law 529 = .ok (.ireturn, 1) := by decide +kernel
theorem md_W_law_530 : decode mc_W_law 530 = .ok (.aload_n 1, 1) := by decide +kernel
theorem md_W_law_531 : decode mc_W_law 531 = .ok (.invokevirtual 53, 3) := by decide +kernel
theorem md_W_law_534 : decode mc_W_law 534 = .ok (.aload_n 2, 1) := by decide +kernel
theorem md_W_law_535 : decode mc_W_law 535 = .ok (.invokevirtual 57, 3) := by decide +kernel
theorem md_W_law_538 : decode mc_W_law 538 = .ok (.lcmp, 1) := by decide +kernel
theorem md_W_law_539 : decode mc_W_law 539 = .ok (.ifCond .eq 293, 3) := by decide +kernel
theorem md_W_law_542 : decode mc_W_law 542 = .ok (.iconst 0, 1) := by decide +kernel
theorem md_W_law_543 : decode mc_W_law 543 = .ok (.ireturn, 1) := by decide +kernel
theorem md_W_law_544 : decode mc_W_law 544 = .ok (.aload_n 1, 1) := by decide +kernel
theorem md_W_law_545 : decode mc_W_law 545 = .ok (.aload_n 0, 1) := by decide +kernel
theorem md_W_law_546 : decode mc_W_law 546 = .ok (.iload_n 3, 1) := by decide +kernel
theorem md_W_law_547 : decode mc_W_law 547 = .ok (.iconst 1, 1) := by decide +kernel
theorem md_W_law_548 : decode mc_W_law 548 = .ok (.iadd, 1) := by decide +kernel
theorem md_W_law_549 : decode mc_W_law 549 = .ok (.iaload, 1) := by decide +kernel
theorem md_W_law_550 : decode mc_W_law 550 = .ok (.aload_n 0, 1) := by decide +kernel
theorem md_W_law_551 : decode mc_W_law 551 = .ok (.iload_n 3, 1) := by decide +kernel
theorem md_W_law_552 : decode mc_W_law 552 = .ok (.iconst 2, 1) := by decide +kernel
theorem md_W_law_553 : decode mc_W_law 553 = .ok (.iadd, 1) := by decide +kernel
theorem md_W_law_554 : decode mc_W_law 554 = .ok (.iaload, 1) := by decide +kernel
theorem md_W_law_555 : decode mc_W_law 555 = .ok (.i2l, 1) := by decide +kernel
theorem md_W_law_556 : decode mc_W_law 556 = .ok (.bipush 32, 2) := by decide +kernel
theorem md_W_law_558 : decode mc_W_law 558 = .ok (.lshl, 1) := by decide +kernel
theorem md_W_law_559 : decode mc_W_law 559 = .ok (.aload_n 0, 1) := by decide +kernel
theorem md_W_law_560 : decode mc_W_law 560 = .ok (.iload_n 3, 1) := by decide +kernel
theorem md_W_law_561 : decode mc_W_law 561 = .ok (.iconst 3, 1) := by decide +kernel
theorem md_W_law_562 : decode mc_W_law 562 = .ok (.iadd, 1) := by decide +kernel
theorem md_W_law_563 : decode mc_W_law 563 = .ok (.iaload, 1) := by decide +kernel
theorem md_W_law_564 : decode mc_W_law 564 = .ok (.i2l, 1) := by decide +kernel
theorem md_W_law_565 : decode mc_W_law 565 = .ok (.ldc2_w 26, 3) := by decide +kernel
theorem md_W_law_568 : decode mc_W_law 568 = .ok (.land, 1) := by decide +kernel
theorem md_W_law_569 : decode mc_W_law 569 = .ok (.lor, 1) := by decide +kernel
theorem md_W_law_570 : decode mc_W_law 570 = .ok (.invokevirtual 58, 3) := by decide +kernel
theorem md_W_law_573 : decode mc_W_law 573 = .ok (.aload_n 2, 1) := by decide +kernel
theorem md_W_law_574 : decode mc_W_law 574 = .ok (.aload_n 0, 1) := by decide +kernel
theorem md_W_law_575 : decode mc_W_law 575 = .ok (.iload_n 3, 1) := by decide +kernel
theorem md_W_law_576 : decode mc_W_law 576 = .ok (.iconst 1, 1) := by decide +kernel
theorem md_W_law_577 : decode mc_W_law 577 = .ok (.iadd, 1) := by decide +kernel
theorem md_W_law_578 : decode mc_W_law 578 = .ok (.iaload, 1) := by decide +kernel
theorem md_W_law_579 : decode mc_W_law 579 = .ok (.aload_n 0, 1) := by decide +kernel
theorem md_W_law_580 : decode mc_W_law 580 = .ok (.iload_n 3, 1) := by decide +kernel
theorem md_W_law_581 : decode mc_W_law 581 = .ok (.iconst 2, 1) := by decide +kernel
theorem md_W_law_582 : decode mc_W_law 582 = .ok (.iadd, 1) := by decide +kernel
theorem md_W_law_583 : decode mc_W_law 583 = .ok (.iaload, 1) := by decide +kernel
theorem md_W_law_584 : decode mc_W_law 584 = .ok (.i2l, 1) := by decide +kernel
theorem md_W_law_585 : decode mc_W_law 585 = .ok (.bipush 32, 2) := by decide +kernel
theorem md_W_law_587 : decode mc_W_law 587 = .ok (.lshl, 1) := by decide +kernel
theorem md_W_law_588 : decode mc_W_law 588 = .ok (.aload_n 0, 1) := by decide +kernel
theorem md_W_law_589 : decode mc_W_law 589 = .ok (.iload_n 3, 1) := by decide +kernel
theorem md_W_law_590 : decode mc_W_law 590 = .ok (.iconst 3, 1) := by decide +kernel
theorem md_W_law_591 : decode mc_W_law 591 = .ok (.iadd, 1) := by decide +kernel
theorem md_W_law_592 : decode mc_W_law 592 = .ok (.iaload, 1) := by decide +kernel
theorem md_W_law_593 : decode mc_W_law 593 = .ok (.i2l, 1) := by decide +kernel
theorem md_W_law_594 : decode mc_W_law 594 = .ok (.ldc2_w 26, 3) := by decide +kernel
theorem md_W_law_597 : decode mc_W_law 597 = .ok (.land, 1) := by decide +kernel
theorem md_W_law_598 : decode mc_W_law 598 = .ok (.lor, 1) := by decide +kernel
theorem md_W_law_599 : decode mc_W_law 599 = .ok (.invokevirtual 61, 3) := by decide +kernel
theorem md_W_law_602 : decode mc_W_law 602 = .ok (.if_icmp .eq 230, 3) := by decide +kernel
theorem md_W_law_605 : decode mc_W_law 605 = .ok (.iconst 0, 1) := by decide +kernel
theorem md_W_law_606 : decode mc_W_law 606 = .ok (.ireturn, 1) := by decide +kernel
theorem md_W_law_607 : decode mc_W_law 607 = .ok (.aload_n 1, 1) := by decide +kernel
theorem md_W_law_608 : decode mc_W_law 608 = .ok (.aload_n 0, 1) := by decide +kernel
theorem md_W_law_609 : decode mc_W_law 609 = .ok (.iload_n 3, 1) := by decide +kernel
theorem md_W_law_610 : decode mc_W_law 610 = .ok (.iconst 1, 1) := by decide +kernel
theorem md_W_law_611 : decode mc_W_law 611 = .ok (.iadd, 1) := by decide +kernel
theorem md_W_law_612 : decode mc_W_law 612 = .ok (.iaload, 1) := by decide +kernel
theorem md_W_law_613 : decode mc_W_law 613 = .ok (.invokevirtual 62, 3) := by decide +kernel
theorem md_W_law_616 : decode mc_W_law 616 = .ok (.aload_n 2, 1) := by decide +kernel
theorem md_W_law_617 : decode mc_W_law 617 = .ok (.aload_n 0, 1) := by decide +kernel
theorem md_W_law_618 : decode mc_W_law 618 = .ok (.iload_n 3, 1) := by decide +kernel
theorem md_W_law_619 : decode mc_W_law 619 = .ok (.iconst 1, 1) := by decide +kernel
theorem md_W_law_620 : decode mc_W_law 620 = .ok (.iadd, 1) := by decide +kernel
theorem md_W_law_621 : decode mc_W_law 621 = .ok (.iaload, 1) := by decide +kernel
theorem md_W_law_622 : decode mc_W_law 622 = .ok (.invokevirtual 66, 3) := by decide +kernel
theorem md_W_law_625 : decode mc_W_law 625 = .ok (.lcmp, 1) := by decide +kernel
theorem md_W_law_626 : decode mc_W_law 626 = .ok (.ifCond .eq 206, 3) := by decide +kernel
theorem md_W_law_629 : decode mc_W_law 629 = .ok (.iconst 0, 1) := by decide +kernel
theorem md_W_law_630 : decode mc_W_law 630 = .ok (.ireturn, 1) := by decide +kernel
theorem md_W_law_631 : decode mc_W_law 631 = .ok (.aload_n 1, 1) := by decide +kernel
theorem md_W_law_632 : decode mc_W_law 632 = .ok (.aload_n 0, 1) := by decide +kernel
theorem md_W_law_633 : decode mc_W_law 633 = .ok (.iload_n 3, 1) := by decide +kernel
theorem md_W_law_634 : decode mc_W_law 634 = .ok (.iconst 1, 1) := by decide +kernel
theorem md_W_law_635 : decode mc_W_law 635 = .ok (.iadd, 1) := by decide +kernel
theorem md_W_law_636 : decode mc_W_law 636 = .ok (.iaload, 1) := by decide +kernel
theorem md_W_law_637 : decode mc_W_law 637 = .ok (.invokevirtual 67, 3) := by decide +kernel
theorem md_W_law_640 : decode mc_W_law 640 = .ok (.aload_n 2, 1) := by decide +kernel
theorem md_W_law_641 : decode mc_W_law 641 = .ok (.aload_n 0, 1) := by decide +kernel
theorem md_W_law_642 : decode mc_W_law 642 = .ok (.iload_n 3, 1) := by decide +kernel
theorem md_W_law_643 : decode mc_W_law 643 = .ok (.iconst 1, 1) := by decide +kernel
theorem md_W_law_644 : decode mc_W_law 644 = .ok (.iadd, 1) := by decide +kernel
theorem md_W_law_645 : decode mc_W_law 645 = .ok (.iaload, 1) := by decide +kernel
theorem md_W_law_646 : decode mc_W_law 646 = .ok (.invokevirtual 71, 3) := by decide +kernel
theorem md_W_law_649 : decode mc_W_law 649 = .ok (.if_icmp .eq 183, 3) := by decide +kernel
theorem md_W_law_652 : decode mc_W_law 652 = .ok (.iconst 0, 1) := by decide +kernel
theorem md_W_law_653 : decode mc_W_law 653 = .ok (.ireturn, 1) := by decide +kernel
theorem md_W_law_654 : decode mc_W_law 654 = .ok (.aload_n 1, 1) := by decide +kernel
theorem md_W_law_655 : decode mc_W_law 655 = .ok (.aload_n 0, 1) := by decide +kernel
theorem md_W_law_656 : decode mc_W_law 656 = .ok (.iload_n 3, 1) := by decide +kernel
theorem md_W_law_657 : decode mc_W_law 657 = .ok (.iconst 1, 1) := by decide +kernel
theorem md_W_law_658 : decode mc_W_law 658 = .ok (.iadd, 1) := by decide +kernel
theorem md_W_law_659 : decode mc_W_law 659 = .ok (.iaload, 1) := by decide +kernel
theorem md_W_law_660 : decode mc_W_law 660 = .ok (.aload_n 0, 1) := by decide +kernel
theorem md_W_law_661 : decode mc_W_law 661 = .ok (.iload_n 3, 1) := by decide +kernel
theorem md_W_law_662 : decode mc_W_law 662 = .ok (.iconst 2, 1) := by decide +kernel
theorem md_W_law_663 : decode mc_W_law 663 = .ok (.iadd, 1) := by decide +kernel
theorem md_W_law_664 : decode mc_W_law 664 = .ok (.iaload, 1) := by decide +kernel
theorem md_W_law_665 : decode mc_W_law 665 = .ok (.invokevirtual 72, 3) := by decide +kernel
theorem md_W_law_668 : decode mc_W_law 668 = .ok (.aload_n 2, 1) := by decide +kernel
theorem md_W_law_669 : decode mc_W_law 669 = .ok (.aload_n 0, 1) := by decide +kernel
theorem md_W_law_670 : decode mc_W_law 670 = .ok (.iload_n 3, 1) := by decide +kernel
theorem md_W_law_671 : decode mc_W_law 671 = .ok (.iconst 1, 1) := by decide +kernel
theorem md_W_law_672 : decode mc_W_law 672 = .ok (.iadd, 1) := by decide +kernel
theorem md_W_law_673 : decode mc_W_law 673 = .ok (.iaload, 1) := by decide +kernel
theorem md_W_law_674 : decode mc_W_law 674 = .ok (.aload_n 0, 1) := by decide +kernel
theorem md_W_law_675 : decode mc_W_law 675 = .ok (.iload_n 3, 1) := by decide +kernel
theorem md_W_law_676 : decode mc_W_law 676 = .ok (.iconst 2, 1) := by decide +kernel
theorem md_W_law_677 : decode mc_W_law 677 = .ok (.iadd, 1) := by decide +kernel
theorem md_W_law_678 : decode mc_W_law 678 = .ok (.iaload, 1) := by decide +kernel
theorem md_W_law_679 : decode mc_W_law 679 = .ok (.invokevirtual 76, 3) := by decide +kernel
theorem md_W_law_682 : decode mc_W_law 682 = .ok (.if_icmp .eq 150, 3) := by decide +kernel
theorem md_W_law_685 : decode mc_W_law 685 = .ok (.iconst 0, 1) := by decide +kernel
theorem md_W_law_686 : decode mc_W_law 686 = .ok (.ireturn, 1) := by decide +kernel
theorem md_W_law_687 : decode mc_W_law 687 = .ok (.aload_n 1, 1) := by decide +kernel
theorem md_W_law_688 : decode mc_W_law 688 = .ok (.aload_n 0, 1) := by decide +kernel
theorem md_W_law_689 : decode mc_W_law 689 = .ok (.iload_n 3, 1) := by decide +kernel
theorem md_W_law_690 : decode mc_W_law 690 = .ok (.iconst 1, 1) := by decide +kernel
theorem md_W_law_691 : decode mc_W_law 691 = .ok (.iadd, 1) := by decide +kernel
theorem md_W_law_692 : decode mc_W_law 692 = .ok (.iaload, 1) := by decide +kernel
theorem md_W_law_693 : decode mc_W_law 693 = .ok (.invokevirtual 77, 3) := by decide +kernel
theorem md_W_law_696 : decode mc_W_law 696 = .ok (.aload_n 2, 1) := by decide +kernel
theorem md_W_law_697 : decode mc_W_law 697 = .ok (.aload_n 0, 1) := by decide +kernel
theorem md_W_law_698 : decode mc_W_law 698 = .ok (.iload_n 3, 1) := by decide +kernel
theorem md_W_law_699 : decode mc_W_law 699 = .ok (.iconst 1, 1) := by decide +kernel
theorem md_W_law_700 : decode mc_W_law 700 = .ok (.iadd, 1) := by decide +kernel
theorem md_W_law_701 : decode mc_W_law 701 = .ok (.iaload, 1) := by decide +kernel
theorem md_W_law_702 : decode mc_W_law 702 = .ok (.invokevirtual 80, 3) := by decide +kernel
theorem md_W_law_705 : decode mc_W_law 705 = .ok (.if_icmp .eq 127, 3) := by decide +kernel
theorem md_W_law_708 : decode mc_W_law 708 = .ok (.iconst 0, 1) := by decide +kernel
theorem md_W_law_709 : decode mc_W_law 709 = .ok (.ireturn, 1) := by decide +kernel
theorem md_W_law_710 : decode mc_W_law 710 = .ok (.aload_n 1, 1) := by decide +kernel
theorem md_W_law_711 : decode mc_W_law 711 = .ok (.aload_n 0, 1) := by decide +kernel
theorem md_W_law_712 : decode mc_W_law 712 = .ok (.iload_n 3, 1) := by decide +kernel
theorem md_W_law_713 : decode mc_W_law 713 = .ok (.iconst 1, 1) := by decide +kernel
theorem md_W_law_714 : decode mc_W_law 714 = .ok (.iadd, 1) := by decide +kernel
theorem md_W_law_715 : decode mc_W_law 715 = .ok (.iaload, 1) := by decide +kernel
theorem md_W_law_716 : decode mc_W_law 716 = .ok (.aload_n 0, 1) := by decide +kernel
theorem md_W_law_717 : decode mc_W_law 717 = .ok (.iload_n 3, 1) := by decide +kernel
theorem md_W_law_718 : decode mc_W_law 718 = .ok (.iconst 2, 1) := by decide +kernel
theorem md_W_law_719 : decode mc_W_law 719 = .ok (.iadd, 1) := by decide +kernel
theorem md_W_law_720 : decode mc_W_law 720 = .ok (.iaload, 1) := by decide +kernel
theorem md_W_law_721 : decode mc_W_law 721 = .ok (.invokevirtual 81, 3) := by decide +kernel
theorem md_W_law_724 : decode mc_W_law 724 = .ok (.aload_n 2, 1) := by decide +kernel
theorem md_W_law_725 : decode mc_W_law 725 = .ok (.aload_n 0, 1) := by decide +kernel
theorem md_W_law_726 : decode mc_W_law 726 = .ok (.iload_n 3, 1) := by decide +kernel
theorem md_W_law_727 : decode mc_W_law 727 = .ok (.iconst 1, 1) := by decide +kernel
theorem md_W_law_728 : decode mc_W_law 728 = .ok (.iadd, 1) := by decide +kernel
theorem md_W_law_729 : decode mc_W_law 729 = .ok (.iaload, 1) := by decide +kernel
theorem md_W_law_730 : decode mc_W_law 730 = .ok (.aload_n 0, 1) := by decide +kernel
theorem md_W_law_731 : decode mc_W_law 731 = .ok (.iload_n 3, 1) := by decide +kernel
theorem md_W_law_732 : decode mc_W_law 732 = .ok (.iconst 2, 1) := by decide +kernel
theorem md_W_law_733 : decode mc_W_law 733 = .ok (.iadd, 1) := by decide +kernel
theorem md_W_law_734 : decode mc_W_law 734 = .ok (.iaload, 1) := by decide +kernel
theorem md_W_law_735 : decode mc_W_law 735 = .ok (.invokevirtual 84, 3) := by decide +kernel
theorem md_W_law_738 : decode mc_W_law 738 = .ok (.if_icmp .eq 94, 3) := by decide +kernel
theorem md_W_law_741 : decode mc_W_law 741 = .ok (.iconst 0, 1) := by decide +kernel
theorem md_W_law_742 : decode mc_W_law 742 = .ok (.ireturn, 1) := by decide +kernel
theorem md_W_law_743 : decode mc_W_law 743 = .ok (.aload_n 1, 1) := by decide +kernel
theorem md_W_law_744 : decode mc_W_law 744 = .ok (.aload_n 0, 1) := by decide +kernel
theorem md_W_law_745 : decode mc_W_law 745 = .ok (.iload_n 3, 1) := by decide +kernel
theorem md_W_law_746 : decode mc_W_law 746 = .ok (.iconst 1, 1) := by decide +kernel
theorem md_W_law_747 : decode mc_W_law 747 = .ok (.iadd, 1) := by decide +kernel
theorem md_W_law_748 : decode mc_W_law 748 = .ok (.iaload, 1) := by decide +kernel
theorem md_W_law_749 : decode mc_W_law 749 = .ok (.aload_n 0, 1) := by decide +kernel
theorem md_W_law_750 : decode mc_W_law 750 = .ok (.iload_n 3, 1) := by decide +kernel
theorem md_W_law_751 : decode mc_W_law 751 = .ok (.iconst 2, 1) := by decide +kernel
theorem md_W_law_752 : decode mc_W_law 752 = .ok (.iadd, 1) := by decide +kernel
theorem md_W_law_753 : decode mc_W_law 753 = .ok (.iaload, 1) := by decide +kernel
theorem md_W_law_754 : decode mc_W_law 754 = .ok (.invokevirtual 85, 3) := by decide +kernel
theorem md_W_law_757 : decode mc_W_law 757 = .ok (.aload_n 2, 1) := by decide +kernel
theorem md_W_law_758 : decode mc_W_law 758 = .ok (.aload_n 0, 1) := by decide +kernel
theorem md_W_law_759 : decode mc_W_law 759 = .ok (.iload_n 3, 1) := by decide +kernel
theorem md_W_law_760 : decode mc_W_law 760 = .ok (.iconst 1, 1) := by decide +kernel
theorem md_W_law_761 : decode mc_W_law 761 = .ok (.iadd, 1) := by decide +kernel
theorem md_W_law_762 : decode mc_W_law 762 = .ok (.iaload, 1) := by decide +kernel
theorem md_W_law_763 : decode mc_W_law 763 = .ok (.aload_n 0, 1) := by decide +kernel
theorem md_W_law_764 : decode mc_W_law 764 = .ok (.iload_n 3, 1) := by decide +kernel
theorem md_W_law_765 : decode mc_W_law 765 = .ok (.iconst 2, 1) := by decide +kernel
theorem md_W_law_766 : decode mc_W_law 766 = .ok (.iadd, 1) := by decide +kernel
theorem md_W_law_767 : decode mc_W_law 767 = .ok (.iaload, 1) := by decide +kernel
theorem md_W_law_768 : decode mc_W_law 768 = .ok (.invokevirtual 88, 3) := by decide +kernel
theorem md_W_law_771 : decode mc_W_law 771 = .ok (.if_icmp .eq 61, 3) := by decide +kernel
theorem md_W_law_774 : decode mc_W_law 774 = .ok (.iconst 0, 1) := by decide +kernel
theorem md_W_law_775 : decode mc_W_law 775 = .ok (.ireturn, 1) := by decide +kernel
theorem md_W_law_776 : decode mc_W_law 776 = .ok (.aload_n 1, 1) := by decide +kernel
theorem md_W_law_777 : decode mc_W_law 777 = .ok (.aload_n 0, 1) := by decide +kernel
theorem md_W_law_778 : decode mc_W_law 778 = .ok (.iload_n 3, 1) := by decide +kernel
theorem md_W_law_779 : decode mc_W_law 779 = .ok (.iconst 1, 1) := by decide +kernel
theorem md_W_law_780 : decode mc_W_law 780 = .ok (.iadd, 1) := by decide +kernel
theorem md_W_law_781 : decode mc_W_law 781 = .ok (.iaload, 1) := by decide +kernel
theorem md_W_law_782 : decode mc_W_law 782 = .ok (.aload_n 0, 1) := by decide +kernel
theorem md_W_law_783 : decode mc_W_law 783 = .ok (.iload_n 3, 1) := by decide +kernel
theorem md_W_law_784 : decode mc_W_law 784 = .ok (.iconst 2, 1) := by decide +kernel
theorem md_W_law_785 : decode mc_W_law 785 = .ok (.iadd, 1) := by decide +kernel
theorem md_W_law_786 : decode mc_W_law 786 = .ok (.iaload, 1) := by decide +kernel
theorem md_W_law_787 : decode mc_W_law 787 = .ok (.invokevirtual 89, 3) := by decide +kernel
theorem md_W_law_790 : decode mc_W_law 790 = .ok (.aload_n 2, 1) := by decide +kernel
theorem md_W_law_791 : decode mc_W_law 791 = .ok (.aload_n 0, 1) := by decide +kernel
theorem md_W_law_792 : decode mc_W_law 792 = .ok (.iload_n 3, 1) := by decide +kernel
theorem md_W_law_793 : decode mc_W_law 793 = .ok (.iconst 1, 1) := by decide +kernel
theorem md_W_law_794 : decode mc_W_law 794 = .ok (.iadd, 1) := by decide +kernel
theorem md_W_law_795 : decode mc_W_law 795 = .ok (.iaload, 1) := by decide +kernel
theorem md_W_law_796 : decode mc_W_law 796 = .ok (.aload_n 0, 1) := by decide +kernel
theorem md_W_law_797 : decode mc_W_law 797 = .ok (.iload_n 3, 1) := by decide +kernel
theorem md_W_law_798 : decode mc_W_law 798 = .ok (.iconst 2, 1) := by decide +kernel
theorem md_W_law_799 : decode mc_W_law 799 = .ok (.iadd, 1) := by decide +kernel
theorem md_W_law_800 : decode mc_W_law 800 = .ok (.iaload, 1) := by decide +kernel
theorem md_W_law_801 : decode mc_W_law 801 = .ok (.invokevirtual 92, 3) := by decide +kernel
theorem md_W_law_804 : decode mc_W_law 804 = .ok (.if_icmp .eq 28, 3) := by decide +kernel
theorem md_W_law_807 : decode mc_W_law 807 = .ok (.iconst 0, 1) := by decide +kernel
theorem md_W_law_808 : decode mc_W_law 808 = .ok (.ireturn, 1) := by decide +kernel
theorem md_W_law_809 : decode mc_W_law 809 = .ok (.aload_n 1, 1) := by decide +kernel
theorem md_W_law_810 : decode mc_W_law 810 = .ok (.aload_n 0, 1) := by decide +kernel
theorem md_W_law_811 : decode mc_W_law 811 = .ok (.iload_n 3, 1) := by decide +kernel
theorem md_W_law_812 : decode mc_W_law 812 = .ok (.iconst 1, 1) := by decide +kernel
theorem md_W_law_813 : decode mc_W_law 813 = .ok (.iadd, 1) := by decide +kernel
theorem md_W_law_814 : decode mc_W_law 814 = .ok (.iaload, 1) := by decide +kernel
theorem md_W_law_815 : decode mc_W_law 815 = .ok (.invokevirtual 93, 3) := by decide +kernel
theorem md_W_law_818 : decode mc_W_law 818 = .ok (.aload_n 2, 1) := by decide +kernel
theorem md_W_law_819 : decode mc_W_law 819 = .ok (.aload_n 0, 1) := by decide +kernel
theorem md_W_law_820 : decode mc_W_law 820 = .ok (.iload_n 3, 1) := by decide +kernel
theorem md_W_law_821 : decode mc_W_law 821 = .ok (.iconst 1, 1) := by decide +kernel
theorem md_W_law_822 : decode mc_W_law 822 = .ok (.iadd, 1) := by decide +kernel
theorem md_W_law_823 : decode mc_W_law 823 = .ok (.iaload, 1) := by decide +kernel
theorem md_W_law_824 : decode mc_W_law 824 = .ok (.invokevirtual 96, 3) := by decide +kernel
theorem md_W_law_827 : decode mc_W_law 827 = .ok (.if_icmp .eq 5, 3) := by decide +kernel
theorem md_W_law_830 : decode mc_W_law 830 = .ok (.iconst 0, 1) := by decide +kernel
theorem md_W_law_831 : decode mc_W_law 831 = .ok (.ireturn, 1) := by decide +kernel
theorem md_W_law_832 : decode mc_W_law 832 = .ok (.iinc 3 6, 3) := by decide +kernel
theorem md_W_law_835 : decode mc_W_law 835 = .ok (.goto (-807), 3) := by decide +kernel
theorem md_W_law_838 : decode mc_W_law 838 = .ok (.iconst 1, 1) := by decide +kernel
theorem md_W_law_839 : decode mc_W_law 839 = .ok (.ireturn, 1) := by decide +kernel
end
section
theorem mj_new0I (μ : mj_MM) (a t n k j : Nat) : mj_i (mj_new μ a t n k) a j = 0 := by simp [mj_i, mj_new, mj_w]
theorem mj_new0R (μ : mj_MM) (a t n k j : Nat) : mj_r (mj_new μ a t n k) a j = none := by simp [mj_r, mj_new, mj_w]
theorem mj_new0L (μ : mj_MM) (a t n k j : Nat) : mj_l (mj_new μ a t n k) a j = 0 := by simp [mj_l, mj_new, mj_w]
theorem mj_sI (μ : mj_MM) (a k : Nat) (x : Int32) : mj_i (mj_pI μ a k x) a k = x := mj_u_self _ _ _ _
theorem mj_sR (μ : mj_MM) (a k : Nat) (x : Option Nat) : mj_r (mj_pR μ a k x) a k = x := mj_u_self _ _ _ _
theorem mj_sL (μ : mj_MM) (a k : Nat) (x : Int64) : mj_l (mj_pL μ a k x) a k = x := mj_u_self _ _ _ _
section MJ4
variable {G : mj_G} {Y : mj_Y} {Ex : Option Value → mj_MM → Prop} {N S pc : Nat} {lv : List (Nat × Value)} {st : List Value} {μ : mj_MM}
theorem mj_istn {k : Fin 4} {i : Nat} {x : Int32} {lv' : List (Nat × Value)} (hdg : decode Y.2.1 pc = .ok (.istore_n k, 1)) (hi : (k : Nat) = i) (hn : i < Y.2.2.1) (hv : (i, Value.int x) :: lv.filter (fun q => !(q.1 == i) && !(q.1 + 1 == i && q.2.category == 2)) = lv') (kk : mj_J G Y Ex N S (pc + 1) lv' st μ) : mj_J G Y Ex N S pc lv (.int x :: st) μ := by
  subst hi
  exact mj_istore_n hdg hn hv kk
theorem mj_lstn {k : Fin 4} {i : Nat} {x : Int64} {lv' : List (Nat × Value)} (hdg : decode Y.2.1 pc = .ok (.lstore_n k, 1)) (hi : (k : Nat) = i) (hn : i + 1 < Y.2.2.1) (hv : (i, Value.long x) :: lv.filter (fun q => !(q.1 == i) && (!(q.1 == i + 1) && !(q.1 + 1 == i && q.2.category == 2))) = lv') (kk : mj_J G Y Ex N S (pc + 1) lv' st μ) : mj_J G Y Ex N S pc lv (.long x :: st) μ := by
  subst hi
  exact mj_lstore_n hdg hn hv kk
theorem mj_astn {k : Fin 4} {i : Nat} {r : Option Nat} {lv' : List (Nat × Value)} (hdg : decode Y.2.1 pc = .ok (.astore_n k, 1)) (hi : (k : Nat) = i) (hn : i < Y.2.2.1) (hv : (i, va_rf r) :: lv.filter (fun q => !(q.1 == i) && !(q.1 + 1 == i && q.2.category == 2)) = lv') (kk : mj_J G Y Ex N S (pc + 1) lv' st μ) : mj_J G Y Ex N S pc lv (va_rf r :: st) μ := by
  subst hi
  exact mj_astore_n hdg hn hv kk
end MJ4
end
section
set_option maxRecDepth 20000 in
theorem bk_T_taskOf_0 {G : mj_G} {Ex : Option Value → mj_MM → Prop} {N S : Nat} {μ : mj_MM} {h0 : Nat} {v1 : Int32}
    (H : ((v1 < 1 → Ex (some (va_rf none)) μ) ∧ (¬ v1 < 1 → ((mj_t μ h0 = 1) ∧ ∃ b2 : Nat, (mj_r μ h0 0 = some b2) ∧ (mj_t μ b2 = 1004) ∧ ((v1 < (nI (mj_n μ b2)) → ((vp_in v1 (mj_n μ b2)) ∧ Ex (some (va_rf (mj_r μ b2 (Int32.toNatClampNeg v1)))) μ)) ∧ (¬ v1 < (nI (mj_n μ b2)) → Ex (some (va_rf none)) μ)))))) :
    mj_J G mY_T_taskOf Ex N S 0 [(0, va_rf (some h0)), (1, .int v1)] [] μ := by
  refine mj_iload_n 1 md_T_taskOf_0 rfl ?_
  refine mj_iconst (v := 1) md_T_taskOf_1 (by decide) ?_
  obtain ⟨H1, H2⟩ := H
  refine mj_icmp_lt (tgt := 14) md_T_taskOf_2 (by decide) (fun hx => ?_) (fun hx => ?_)
  · replace H := H1 hx
    refine mj_null md_T_taskOf_14 ?_
    refine mj_goto (tgt := 24) md_T_taskOf_15 (by decide) ?_
    exact mj_areturn md_T_taskOf_24 rfl (Or.inl ⟨_, rfl⟩) H
  · replace H := H2 hx
    refine mj_iload_n 1 md_T_taskOf_5 rfl ?_
    refine mj_aload_n 0 md_T_taskOf_6 rfl ?_
    obtain ⟨ht1, H⟩ := H
    refine mj_getf (v := va_rf (mj_r μ h0 0)) rfl kc_T 0 (by decide) tw_137 md_T_taskOf_7 ht1 rfl ?_
    obtain ⟨b2, hb3, H⟩ := H
    obtain ⟨ht4, H⟩ := H
    refine mj_alen (t := 4) hb3 rfl ht4 md_T_taskOf_10 ?_
    obtain ⟨H1, H2⟩ := H
    refine mj_icmp_lt (tgt := 18) md_T_taskOf_11 (by decide) (fun hx => ?_) (fun hx => ?_)
    · replace H := H1 hx
      refine mj_aload_n 0 md_T_taskOf_18 rfl ?_
      refine mj_getf (v := va_rf (mj_r μ h0 0)) rfl kc_T 0 (by decide) tw_137 md_T_taskOf_19 ht1 rfl ?_
      refine mj_iload_n 1 md_T_taskOf_22 rfl ?_
      obtain ⟨hi5, H⟩ := H
      refine mj_aald (t := 4) hb3 rfl rfl ht4 hi5 md_T_taskOf_23 ?_
      exact mj_areturn md_T_taskOf_24 rfl (Or.inl ⟨_, rfl⟩) H
    · replace H := H2 hx
      refine mj_null md_T_taskOf_14 ?_
      refine mj_goto (tgt := 24) md_T_taskOf_15 (by decide) ?_
      exact mj_areturn md_T_taskOf_24 rfl (Or.inl ⟨_, rfl⟩) H

set_option maxRecDepth 20000 in
theorem bk_T_choose_0 {G : mj_G} {Ex : Option Value → mj_MM → Prop} {N S : Nat} {μ : mj_MM} {h0 : Nat} {v1 : Option Nat}
    (H : (∃ b1 : Nat, (v1 = some b1) ∧ (mj_t μ b1 = 2) ∧ ((mj_r μ b1 4 = none → mj_J G mY_T_choose Ex N S 37 [(1, va_rf v1), (2, va_rf (mj_r μ b1 4)), (3, va_rf (mj_r μ b1 4)), (4, va_rf (mj_r μ b1 2))] [] (mj_pI μ b1 6 0)) ∧ (∀ b4 : Nat, mj_r μ b1 4 = some b4 → ((mj_t μ b4 = 9) ∧ ((¬ (mj_i μ b4 5) = 0 → mj_J G mY_T_choose Ex N S 37 [(1, va_rf v1), (2, va_rf (mj_r μ b1 4)), (3, va_rf (mj_r μ b1 4)), (4, va_rf (mj_r μ b1 2))] [] (mj_pI μ b1 6 0)) ∧ ((mj_i μ b4 5) = 0 → ((¬ (mj_i μ b1 6) = 0 → mj_J G mY_T_choose Ex N S 37 [(1, va_rf v1), (2, va_rf (mj_r μ b1 4)), (3, va_rf (mj_r μ b1 4)), (4, va_rf (mj_r μ b1 2))] [] (mj_pI μ b1 6 0)) ∧ ((mj_i μ b1 6) = 0 → Ex none μ))))))))) :
    mj_J G mY_T_choose Ex N S 0 [(0, va_rf (some h0)), (1, va_rf v1)] [] μ := by
  refine mj_aload_n 1 md_T_choose_0 rfl ?_
  obtain ⟨b1, hb2, H⟩ := H
  obtain ⟨ht3, H⟩ := H
  refine mj_getf (v := va_rf (mj_r μ b1 4)) hb2 kc_C 4 (by decide) tw_87 md_T_choose_1 ht3 rfl ?_
  refine mj_astn (i := 2) (lv' := [(2, va_rf (mj_r μ b1 4)), (0, va_rf (some h0)), (1, va_rf v1)]) md_T_choose_4 rfl (by decide) (by first | rfl | simp [mj_rfc]) ?_
  refine mj_aload_n 0 md_T_choose_5 rfl ?_
  obtain ⟨H1, H2⟩ := H
  refine mj_ifnull (tgt := 24) md_T_choose_6 (by decide) (fun hb => ?_) (fun b4 hb5 => ?_)
  · replace H := H1 hb
    refine mj_aload_n 2 md_T_choose_24 rfl ?_
    refine mj_iconst (v := 0) md_T_choose_25 (by decide) ?_
    refine mj_putI hb2 kc_C 6 (by decide) rfl tw_90 md_T_choose_26 (Or.inl rfl) ht3 (by decide) (by decide) ?_
    refine mj_aload_n 0 md_T_choose_29 rfl ?_
    refine mj_astn (i := 3) (lv' := [(3, va_rf (mj_r μ b1 4)), (2, va_rf (mj_r μ b1 4)), (0, va_rf (some h0)), (1, va_rf v1)]) md_T_choose_30 rfl (by decide) (by first | rfl | simp [mj_rfc]) ?_
    refine mj_aload_n 3 md_T_choose_31 rfl ?_
    refine mj_getf (v := va_rf (mj_r μ b1 2)) hb2 kc_C 2 (by decide) tw_85 md_T_choose_32 ht3 rfl ?_
    refine mj_astore (lv' := [(4, va_rf (mj_r μ b1 2)), (3, va_rf (mj_r μ b1 4)), (2, va_rf (mj_r μ b1 4)), (0, va_rf (some h0)), (1, va_rf v1)]) md_T_choose_35 (by decide) (by first | rfl | simp [mj_rfc]) ?_
    exact mj_lvs [4, 2, 1, 0] rfl H
  · replace H := H2 b4 hb5
    refine mj_aload_n 0 md_T_choose_9 rfl ?_
    obtain ⟨ht6, H⟩ := H
    refine mj_getf (v := .int (mj_i μ b4 5)) hb5 kc_K 5 (by decide) tw_224 md_T_choose_10 ht6 rfl ?_
    obtain ⟨H1, H2⟩ := H
    refine mj_if_ne (tgt := 24) md_T_choose_13 (by decide) (fun hx => ?_) (fun hx => ?_)
    · replace H := H1 hx
      refine mj_aload_n 2 md_T_choose_24 rfl ?_
      refine mj_iconst (v := 0) md_T_choose_25 (by decide) ?_
      refine mj_putI hb2 kc_C 6 (by decide) rfl tw_90 md_T_choose_26 (Or.inl rfl) ht3 (by decide) (by decide) ?_
      refine mj_aload_n 0 md_T_choose_29 rfl ?_
      refine mj_astn (i := 3) (lv' := [(3, va_rf (mj_r μ b1 4)), (2, va_rf (mj_r μ b1 4)), (0, va_rf (some h0)), (1, va_rf v1)]) md_T_choose_30 rfl (by decide) (by first | rfl | simp [mj_rfc]) ?_
      refine mj_aload_n 3 md_T_choose_31 rfl ?_
      refine mj_getf (v := va_rf (mj_r μ b1 2)) hb2 kc_C 2 (by decide) tw_85 md_T_choose_32 ht3 rfl ?_
      refine mj_astore (lv' := [(4, va_rf (mj_r μ b1 2)), (3, va_rf (mj_r μ b1 4)), (2, va_rf (mj_r μ b1 4)), (0, va_rf (some h0)), (1, va_rf v1)]) md_T_choose_35 (by decide) (by first | rfl | simp [mj_rfc]) ?_
      exact mj_lvs [4, 2, 1, 0] rfl H
    · replace H := H2 hx
      refine mj_aload_n 2 md_T_choose_16 rfl ?_
      refine mj_getf (v := .int (mj_i μ b1 6)) hb2 kc_C 6 (by decide) tw_90 md_T_choose_17 ht3 rfl ?_
      obtain ⟨H1, H2⟩ := H
      refine mj_if_ne (tgt := 24) md_T_choose_20 (by decide) (fun hx => ?_) (fun hx => ?_)
      · replace H := H1 hx
        refine mj_aload_n 2 md_T_choose_24 rfl ?_
        refine mj_iconst (v := 0) md_T_choose_25 (by decide) ?_
        refine mj_putI hb2 kc_C 6 (by decide) rfl tw_90 md_T_choose_26 (Or.inl rfl) ht3 (by decide) (by decide) ?_
        refine mj_aload_n 0 md_T_choose_29 rfl ?_
        refine mj_astn (i := 3) (lv' := [(3, va_rf (mj_r μ b1 4)), (2, va_rf (mj_r μ b1 4)), (0, va_rf (some h0)), (1, va_rf v1)]) md_T_choose_30 rfl (by decide) (by first | rfl | simp [mj_rfc]) ?_
        refine mj_aload_n 3 md_T_choose_31 rfl ?_
        refine mj_getf (v := va_rf (mj_r μ b1 2)) hb2 kc_C 2 (by decide) tw_85 md_T_choose_32 ht3 rfl ?_
        refine mj_astore (lv' := [(4, va_rf (mj_r μ b1 2)), (3, va_rf (mj_r μ b1 4)), (2, va_rf (mj_r μ b1 4)), (0, va_rf (some h0)), (1, va_rf v1)]) md_T_choose_35 (by decide) (by first | rfl | simp [mj_rfc]) ?_
        exact mj_lvs [4, 2, 1, 0] rfl H
      · replace H := H2 hx
        exact mj_return md_T_choose_23 rfl H

set_option maxRecDepth 20000 in
theorem bk_T_choose_37 {G : mj_G} {Ex : Option Value → mj_MM → Prop} {N S : Nat} {μ : mj_MM} {v1 : Option Nat} {v2 : Option Nat} {v3 : Option Nat} {v4 : Option Nat}
    (H : ((v4 = none → ((v3 = none → Ex none μ) ∧ (∀ b3 : Nat, v3 = some b3 → ((¬ v3 = v2 → ((v2 = none → ((mj_t μ b3 = 9) ∧ ∃ b8 : Nat, (v1 = some b8) ∧ (mj_t μ b8 = 2) ∧ Ex none (mj_pR (mj_pI μ b3 9 2) b8 4 v3))) ∧ (∀ b5 : Nat, v2 = some b5 → ((mj_t μ b5 = 9) ∧ (mj_t μ b3 = 9) ∧ ∃ b13 : Nat, (v1 = some b13) ∧ (mj_t μ b13 = 2) ∧ Ex none (mj_pR (mj_pI (mj_pI μ b5 9 1) b3 9 2) b13 4 v3))))) ∧ (v3 = v2 → Ex none μ))))) ∧ (∀ b1 : Nat, v4 = some b1 → ((mj_t μ b1 = 9) ∧ ((¬ (mj_i μ b1 9) = 1 → mj_J G mY_T_choose Ex N S 37 [(1, va_rf v1), (2, va_rf v2), (3, va_rf v3), (4, va_rf (mj_r μ b1 17))] [] μ) ∧ ((mj_i μ b1 9) = 1 → ((v3 = none → mj_J G mY_T_choose Ex N S 37 [(1, va_rf v1), (2, va_rf v2), (3, va_rf v4), (4, va_rf (mj_r μ b1 17))] [] μ) ∧ (∀ b17 : Nat, v3 = some b17 → (∃ P : Int32 → mj_MM → Prop, mj_M G my_K_comesBefore mY_K_comesBefore [va_rf (some b1), va_rf v3] (mj_nc μ) (mj_ns μ) μ (mj_XI P) ∧ ∀ (x : Int32) (μ' : mj_MM), P x μ' → mj_nc μ' = mj_nc μ → mj_ns μ' = mj_ns μ → mj_J G mY_T_choose Ex N S 61 [(1, va_rf v1), (2, va_rf v2), (3, va_rf v3), (4, va_rf v4)] [.int x] μ'))))))))) :
    mj_J G mY_T_choose Ex N S 37 [(1, va_rf v1), (2, va_rf v2), (3, va_rf v3), (4, va_rf v4)] [] μ := by
  refine mj_aload 3 md_T_choose_37 rfl ?_
  obtain ⟨H1, H2⟩ := H
  refine mj_ifnull (tgt := 77) md_T_choose_39 (by decide) (fun hb => ?_) (fun b1 hb2 => ?_)
  · replace H := H1 hb
    refine mj_aload_n 2 md_T_choose_77 rfl ?_
    obtain ⟨H1, H2⟩ := H
    refine mj_ifnull (tgt := 86) md_T_choose_78 (by decide) (fun hb => ?_) (fun b3 hb4 => ?_)
    · replace H := H1 hb
      exact mj_return md_T_choose_86 rfl H
    · replace H := H2 b3 hb4
      refine mj_aload_n 2 md_T_choose_81 rfl ?_
      refine mj_aload_n 1 md_T_choose_82 rfl ?_
      obtain ⟨H1, H2⟩ := H
      refine mj_acmp_ne (tgt := 87) md_T_choose_83 (by decide) (fun hx => ?_) (fun hx => ?_)
      · replace H := H1 hx
        refine mj_aload_n 1 md_T_choose_87 rfl ?_
        obtain ⟨H1, H2⟩ := H
        refine mj_ifnull (tgt := 96) md_T_choose_88 (by decide) (fun hb => ?_) (fun b5 hb6 => ?_)
        · replace H := H1 hb
          refine mj_aload_n 2 md_T_choose_96 rfl ?_
          refine mj_iconst (v := 2) md_T_choose_97 (by decide) ?_
          obtain ⟨ht7, H⟩ := H
          refine mj_putI hb4 kc_K 9 (by decide) rfl tw_232 md_T_choose_98 (Or.inl rfl) ht7 rfl rfl ?_
          refine mj_aload_n 0 md_T_choose_101 rfl ?_
          refine mj_aload_n 2 md_T_choose_102 rfl ?_
          obtain ⟨b8, hb9, H⟩ := H
          obtain ⟨ht10, H⟩ := H
          refine mj_putR hb9 kc_C 4 (by decide) rfl tw_87 md_T_choose_103 (Or.inl rfl) ht10 ?_
          exact mj_return md_T_choose_106 rfl H
        · replace H := H2 b5 hb6
          refine mj_aload_n 1 md_T_choose_91 rfl ?_
          refine mj_iconst (v := 1) md_T_choose_92 (by decide) ?_
          obtain ⟨ht11, H⟩ := H
          refine mj_putI hb6 kc_K 9 (by decide) rfl tw_232 md_T_choose_93 (Or.inl rfl) ht11 rfl rfl ?_
          refine mj_aload_n 2 md_T_choose_96 rfl ?_
          refine mj_iconst (v := 2) md_T_choose_97 (by decide) ?_
          obtain ⟨ht12, H⟩ := H
          refine mj_putI hb4 kc_K 9 (by decide) rfl tw_232 md_T_choose_98 (Or.inl rfl) ht12 rfl rfl ?_
          refine mj_aload_n 0 md_T_choose_101 rfl ?_
          refine mj_aload_n 2 md_T_choose_102 rfl ?_
          obtain ⟨b13, hb14, H⟩ := H
          obtain ⟨ht15, H⟩ := H
          refine mj_putR hb14 kc_C 4 (by decide) rfl tw_87 md_T_choose_103 (Or.inl rfl) ht15 ?_
          exact mj_return md_T_choose_106 rfl H
      · replace H := H2 hx
        exact mj_return md_T_choose_86 rfl H
  · replace H := H2 b1 hb2
    refine mj_aload 3 md_T_choose_42 rfl ?_
    obtain ⟨ht16, H⟩ := H
    refine mj_getf (v := .int (mj_i μ b1 9)) hb2 kc_K 9 (by decide) tw_232 md_T_choose_44 ht16 rfl ?_
    refine mj_iconst (v := 1) md_T_choose_47 (by decide) ?_
    obtain ⟨H1, H2⟩ := H
    refine mj_icmp_ne (tgt := 67) md_T_choose_48 (by decide) (fun hx => ?_) (fun hx => ?_)
    · replace H := H1 hx
      refine mj_aload 3 md_T_choose_67 rfl ?_
      refine mj_getf (v := va_rf (mj_r μ b1 17)) hb2 kc_K 17 (by decide) tw_245 md_T_choose_69 ht16 rfl ?_
      refine mj_astore (lv' := [(4, va_rf (mj_r μ b1 17)), (1, va_rf v1), (2, va_rf v2), (3, va_rf v3)]) md_T_choose_72 (by decide) (by first | rfl | simp [mj_rfc]) ?_
      refine mj_goto (tgt := 37) md_T_choose_74 (by decide) ?_
      exact mj_lvs [1, 2, 3, 0] rfl H
    · replace H := H2 hx
      refine mj_aload_n 2 md_T_choose_51 rfl ?_
      obtain ⟨H1, H2⟩ := H
      refine mj_ifnull (tgt := 64) md_T_choose_52 (by decide) (fun hb => ?_) (fun b17 hb18 => ?_)
      · replace H := H1 hb
        refine mj_aload 3 md_T_choose_64 rfl ?_
        refine mj_astn (i := 3) (lv' := [(3, va_rf v4), (1, va_rf v1), (2, va_rf v2), (4, va_rf v4)]) md_T_choose_66 rfl (by decide) (by first | rfl | simp [mj_rfc]) ?_
        refine mj_aload 3 md_T_choose_67 rfl ?_
        refine mj_getf (v := va_rf (mj_r μ b1 17)) hb2 kc_K 17 (by decide) tw_245 md_T_choose_69 ht16 rfl ?_
        refine mj_astore (lv' := [(4, va_rf (mj_r μ b1 17)), (3, va_rf v4), (1, va_rf v1), (2, va_rf v2)]) md_T_choose_72 (by decide) (by first | rfl | simp [mj_rfc]) ?_
        refine mj_goto (tgt := 37) md_T_choose_74 (by decide) ?_
        exact mj_lvs [2, 3, 1, 0] rfl H
      · replace H := H2 b17 hb18
        refine mj_aload 3 md_T_choose_55 rfl ?_
        refine mj_aload_n 2 md_T_choose_57 rfl ?_
        obtain ⟨P, hM, H⟩ := H
        exact mj_callV (n := 1) (As := [va_rf v3]) hb2 hM kc_K ht16 ⟨tw_429, tw_9, tw_432, ⟨by decide, by decide, by decide +kernel⟩, by decide, by decide⟩ tw_430 tw_431 rfl md_T_choose_58 (by first | decide | simp [mj_rfc, Value.category]) id (mj_kI (fun x μ' hP e1 e2 => mj_lvs [0, 1, 2, 3] rfl (H x μ' hP e1 e2)))

set_option maxRecDepth 20000 in
theorem bk_T_choose_61 {G : mj_G} {Ex : Option Value → mj_MM → Prop} {N S : Nat} {μ : mj_MM} {v1 : Option Nat} {v2 : Option Nat} {v3 : Option Nat} {v4 : Option Nat} {s0 : Int32}
    (H : ((s0 = 0 → (∃ b1 : Nat, (v4 = some b1) ∧ (mj_t μ b1 = 9) ∧ mj_J G mY_T_choose Ex N S 37 [(1, va_rf v1), (2, va_rf v2), (3, va_rf v3), (4, va_rf (mj_r μ b1 17))] [] μ)) ∧ (¬ s0 = 0 → (∃ b4 : Nat, (v4 = some b4) ∧ (mj_t μ b4 = 9) ∧ mj_J G mY_T_choose Ex N S 37 [(1, va_rf v1), (2, va_rf v2), (3, va_rf v4), (4, va_rf (mj_r μ b4 17))] [] μ)))) :
    mj_J G mY_T_choose Ex N S 61 [(1, va_rf v1), (2, va_rf v2), (3, va_rf v3), (4, va_rf v4)] [.int s0] μ := by
  obtain ⟨H1, H2⟩ := H
  refine mj_if_eq (tgt := 67) md_T_choose_61 (by decide) (fun hx => ?_) (fun hx => ?_)
  · replace H := H1 hx
    refine mj_aload 3 md_T_choose_67 rfl ?_
    obtain ⟨b1, hb2, H⟩ := H
    obtain ⟨ht3, H⟩ := H
    refine mj_getf (v := va_rf (mj_r μ b1 17)) hb2 kc_K 17 (by decide) tw_245 md_T_choose_69 ht3 rfl ?_
    refine mj_astore (lv' := [(4, va_rf (mj_r μ b1 17)), (1, va_rf v1), (2, va_rf v2), (3, va_rf v3)]) md_T_choose_72 (by decide) (by first | rfl | simp [mj_rfc]) ?_
    refine mj_goto (tgt := 37) md_T_choose_74 (by decide) ?_
    exact mj_lvs [1, 2, 3, 0] rfl H
  · replace H := H2 hx
    refine mj_aload 3 md_T_choose_64 rfl ?_
    refine mj_astn (i := 3) (lv' := [(3, va_rf v4), (1, va_rf v1), (2, va_rf v2), (4, va_rf v4)]) md_T_choose_66 rfl (by decide) (by first | rfl | simp [mj_rfc]) ?_
    refine mj_aload 3 md_T_choose_67 rfl ?_
    obtain ⟨b4, hb5, H⟩ := H
    obtain ⟨ht6, H⟩ := H
    refine mj_getf (v := va_rf (mj_r μ b4 17)) hb5 kc_K 17 (by decide) tw_245 md_T_choose_69 ht6 rfl ?_
    refine mj_astore (lv' := [(4, va_rf (mj_r μ b4 17)), (3, va_rf v4), (1, va_rf v1), (2, va_rf v2)]) md_T_choose_72 (by decide) (by first | rfl | simp [mj_rfc]) ?_
    refine mj_goto (tgt := 37) md_T_choose_74 (by decide) ?_
    exact mj_lvs [2, 3, 1, 0] rfl H

set_option maxRecDepth 20000 in
theorem bk_M_no_0 {G : mj_G} {Ex : Option Value → mj_MM → Prop} {N S : Nat} {μ : mj_MM} {h0 : Nat} {v1 : Int32}
    (H : ((v1 < 1 → Ex (some (.int 1)) μ) ∧ (¬ v1 < 1 → ((mj_t μ h0 = 11) ∧ ((v1 ≤ (mj_i μ h0 1) → Ex (some (.int 0)) μ) ∧ (¬ v1 ≤ (mj_i μ h0 1) → Ex (some (.int 1)) μ)))))) :
    mj_J G mY_M_no Ex N S 0 [(0, va_rf (some h0)), (1, .int v1)] [] μ := by
  refine mj_iload_n 1 md_M_no_0 rfl ?_
  refine mj_iconst (v := 1) md_M_no_1 (by decide) ?_
  obtain ⟨H1, H2⟩ := H
  refine mj_icmp_lt (tgt := 13) md_M_no_2 (by decide) (fun hx => ?_) (fun hx => ?_)
  · replace H := H1 hx
    refine mj_iconst (v := 1) md_M_no_13 (by decide) ?_
    refine mj_goto (tgt := 18) md_M_no_14 (by decide) ?_
    exact mj_ireturn md_M_no_18 rfl (by decide) H
  · replace H := H2 hx
    refine mj_iload_n 1 md_M_no_5 rfl ?_
    refine mj_aload_n 0 md_M_no_6 rfl ?_
    obtain ⟨ht1, H⟩ := H
    refine mj_getf (v := .int (mj_i μ h0 1)) rfl kc_M 1 (by decide) tw_624 md_M_no_7 ht1 rfl ?_
    obtain ⟨H1, H2⟩ := H
    refine mj_icmp_le (tgt := 17) md_M_no_10 (by decide) (fun hx => ?_) (fun hx => ?_)
    · replace H := H1 hx
      refine mj_iconst (v := 0) md_M_no_17 (by decide) ?_
      exact mj_ireturn md_M_no_18 rfl (by decide) H
    · replace H := H2 hx
      refine mj_iconst (v := 1) md_M_no_13 (by decide) ?_
      refine mj_goto (tgt := 18) md_M_no_14 (by decide) ?_
      exact mj_ireturn md_M_no_18 rfl (by decide) H

set_option maxRecDepth 20000 in
theorem bk_M_tell_0 {G : mj_G} {Ex : Option Value → mj_MM → Prop} {N S : Nat} {μ : mj_MM} {h0 : Nat} {v1 : Int32} {v2 : Int32}
    (H : ((mj_t μ h0 = 11) ∧ ((1000 ≤ (mj_i μ h0 39) → Ex none (mj_pI μ h0 39 ((mj_i μ h0 39) + 1))) ∧ (¬ 1000 ≤ (mj_i μ h0 39) → (∃ b2 : Nat, (mj_r μ h0 40 = some b2) ∧ (mj_t μ b2 = 1000) ∧ (vp_in (mj_i μ h0 39) (mj_n μ b2)) ∧ ∃ b6 : Nat, (mj_r μ h0 41 = some b6) ∧ (mj_t μ b6 = 1000) ∧ (vp_in (mj_i (mj_pI μ b2 (Int32.toNatClampNeg (mj_i μ h0 39)) v1) h0 39) (mj_n μ b6)) ∧ ∃ b10 : Nat, (mj_r μ h0 42 = some b10) ∧ (mj_t μ b10 = 1001) ∧ (vp_in (mj_i (mj_pI (mj_pI μ b2 (Int32.toNatClampNeg (mj_i μ h0 39)) v1) b6 (Int32.toNatClampNeg (mj_i (mj_pI μ b2 (Int32.toNatClampNeg (mj_i μ h0 39)) v1) h0 39)) v2) h0 39) (mj_n μ b10)) ∧ Ex none (mj_pI (mj_pL (mj_pI (mj_pI μ b2 (Int32.toNatClampNeg (mj_i μ h0 39)) v1) b6 (Int32.toNatClampNeg (mj_i (mj_pI μ b2 (Int32.toNatClampNeg (mj_i μ h0 39)) v1) h0 39)) v2) b10 (Int32.toNatClampNeg (mj_i (mj_pI (mj_pI μ b2 (Int32.toNatClampNeg (mj_i μ h0 39)) v1) b6 (Int32.toNatClampNeg (mj_i (mj_pI μ b2 (Int32.toNatClampNeg (mj_i μ h0 39)) v1) h0 39)) v2) h0 39)) (mj_l μ h0 43)) h0 39 ((mj_i (mj_pI (mj_pI μ b2 (Int32.toNatClampNeg (mj_i μ h0 39)) v1) b6 (Int32.toNatClampNeg (mj_i (mj_pI μ b2 (Int32.toNatClampNeg (mj_i μ h0 39)) v1) h0 39)) v2) h0 39) + 1))))))) :
    mj_J G mY_M_tell Ex N S 0 [(0, va_rf (some h0)), (1, .int v1), (2, .int v2)] [] μ := by
  refine mj_aload_n 0 md_M_tell_0 rfl ?_
  obtain ⟨ht1, H⟩ := H
  refine mj_getf (v := .int (mj_i μ h0 39)) rfl kc_M 39 (by decide) tw_662 md_M_tell_1 ht1 rfl ?_
  refine mj_sipush (v := 1000) md_M_tell_4 (by decide) ?_
  obtain ⟨H1, H2⟩ := H
  refine mj_icmp_ge (tgt := 43) md_M_tell_7 (by decide) (fun hx => ?_) (fun hx => ?_)
  · replace H := H1 hx
    refine mj_aload_n 0 md_M_tell_43 rfl ?_
    refine mj_dup md_M_tell_44 (mj_rfc _) ?_
    refine mj_getf (v := .int (mj_i μ h0 39)) rfl kc_M 39 (by decide) tw_662 md_M_tell_45 ht1 rfl ?_
    refine mj_iconst (v := 1) md_M_tell_48 (by decide) ?_
    refine mj_iadd md_M_tell_49 ?_
    refine mj_putI rfl kc_M 39 (by decide) rfl tw_662 md_M_tell_50 (Or.inl rfl) ht1 rfl rfl ?_
    exact mj_return md_M_tell_53 rfl H
  · replace H := H2 hx
    refine mj_aload_n 0 md_M_tell_10 rfl ?_
    refine mj_getf (v := va_rf (mj_r μ h0 40)) rfl kc_M 40 (by decide) tw_663 md_M_tell_11 ht1 rfl ?_
    refine mj_aload_n 0 md_M_tell_14 rfl ?_
    refine mj_getf (v := .int (mj_i μ h0 39)) rfl kc_M 39 (by decide) tw_662 md_M_tell_15 ht1 rfl ?_
    refine mj_iload_n 1 md_M_tell_18 rfl ?_
    obtain ⟨b2, hb3, H⟩ := H
    obtain ⟨ht4, H⟩ := H
    obtain ⟨hi5, H⟩ := H
    refine mj_iast (t := 0) hb3 rfl ht4 hi5 md_M_tell_19 ?_
    refine mj_aload_n 0 md_M_tell_20 rfl ?_
    refine mj_getf (v := va_rf (mj_r μ h0 41)) rfl kc_M 41 (by decide) tw_664 md_M_tell_21 ht1 rfl ?_
    refine mj_aload_n 0 md_M_tell_24 rfl ?_
    refine mj_getf (v := .int (mj_i (mj_pI μ b2 (Int32.toNatClampNeg (mj_i μ h0 39)) v1) h0 39)) rfl kc_M 39 (by decide) tw_662 md_M_tell_25 ht1 rfl ?_
    refine mj_iload_n 2 md_M_tell_28 rfl ?_
    obtain ⟨b6, hb7, H⟩ := H
    obtain ⟨ht8, H⟩ := H
    obtain ⟨hi9, H⟩ := H
    refine mj_iast (t := 0) hb7 rfl ht8 hi9 md_M_tell_29 ?_
    refine mj_aload_n 0 md_M_tell_30 rfl ?_
    refine mj_getf (v := va_rf (mj_r μ h0 42)) rfl kc_M 42 (by decide) tw_665 md_M_tell_31 ht1 rfl ?_
    refine mj_aload_n 0 md_M_tell_34 rfl ?_
    refine mj_getf (v := .int (mj_i (mj_pI (mj_pI μ b2 (Int32.toNatClampNeg (mj_i μ h0 39)) v1) b6 (Int32.toNatClampNeg (mj_i (mj_pI μ b2 (Int32.toNatClampNeg (mj_i μ h0 39)) v1) h0 39)) v2) h0 39)) rfl kc_M 39 (by decide) tw_662 md_M_tell_35 ht1 rfl ?_
    refine mj_aload_n 0 md_M_tell_38 rfl ?_
    refine mj_getf (v := .long (mj_l μ h0 43)) rfl kc_M 43 (by decide) tw_666 md_M_tell_39 ht1 rfl ?_
    obtain ⟨b10, hb11, H⟩ := H
    obtain ⟨ht12, H⟩ := H
    obtain ⟨hi13, H⟩ := H
    refine mj_last (t := 1) hb11 rfl ht12 hi13 md_M_tell_42 ?_
    refine mj_aload_n 0 md_M_tell_43 rfl ?_
    refine mj_dup md_M_tell_44 (mj_rfc _) ?_
    refine mj_getf (v := .int (mj_i (mj_pI (mj_pI μ b2 (Int32.toNatClampNeg (mj_i μ h0 39)) v1) b6 (Int32.toNatClampNeg (mj_i (mj_pI μ b2 (Int32.toNatClampNeg (mj_i μ h0 39)) v1) h0 39)) v2) h0 39)) rfl kc_M 39 (by decide) tw_662 md_M_tell_45 ht1 rfl ?_
    refine mj_iconst (v := 1) md_M_tell_48 (by decide) ?_
    refine mj_iadd md_M_tell_49 ?_
    refine mj_putI rfl kc_M 39 (by decide) rfl tw_662 md_M_tell_50 (Or.inl rfl) ht1 rfl rfl ?_
    exact mj_return md_M_tell_53 rfl H

set_option maxRecDepth 20000 in
theorem bk_M_ready_0 {G : mj_G} {Ex : Option Value → mj_MM → Prop} {N S : Nat} {μ : mj_MM} {h0 : Nat} {v1 : Int32}
    (H : ((mj_t μ h0 = 11) ∧ ∃ b2 : Nat, (mj_r μ h0 12 = some b2) ∧ (mj_t μ b2 = 1001) ∧ (vp_in v1 (mj_n μ b2)) ∧ ∃ b6 : Nat, (mj_r μ h0 11 = some b6) ∧ (mj_t μ b6 = 1000) ∧ (vp_in v1 (mj_n μ b6)) ∧ Ex none (mj_pI (mj_pL (mj_pL μ h0 21 ((mj_l μ h0 21) + 1)) b2 (Int32.toNatClampNeg v1) ((mj_l μ h0 21) + 1)) b6 (Int32.toNatClampNeg v1) 1))) :
    mj_J G mY_M_ready Ex N S 0 [(0, va_rf (some h0)), (1, .int v1)] [] μ := by
  refine mj_aload_n 0 md_M_ready_0 rfl ?_
  refine mj_dup md_M_ready_1 (mj_rfc _) ?_
  obtain ⟨ht1, H⟩ := H
  refine mj_getf (v := .long (mj_l μ h0 21)) rfl kc_M 21 (by decide) tw_644 md_M_ready_2 ht1 rfl ?_
  refine mj_lconst (v := 1) md_M_ready_5 (by decide) ?_
  refine mj_ladd md_M_ready_6 ?_
  refine mj_putL rfl kc_M 21 (by decide) rfl tw_644 md_M_ready_7 (Or.inl rfl) ht1 ?_
  refine mj_aload_n 0 md_M_ready_10 rfl ?_
  refine mj_getf (v := va_rf (mj_r μ h0 12)) rfl kc_M 12 (by decide) tw_635 md_M_ready_11 ht1 rfl ?_
  refine mj_iload_n 1 md_M_ready_14 rfl ?_
  refine mj_aload_n 0 md_M_ready_15 rfl ?_
  refine mj_getf (v := .long ((mj_l μ h0 21) + 1)) rfl kc_M 21 (by decide) tw_644 md_M_ready_16 ht1 (by show Value.long (mj_l (mj_pL μ h0 21 ((mj_l μ h0 21) + 1)) h0 21) = _; rw [mj_sL]) ?_
  obtain ⟨b2, hb3, H⟩ := H
  obtain ⟨ht4, H⟩ := H
  obtain ⟨hi5, H⟩ := H
  refine mj_last (t := 1) hb3 rfl ht4 hi5 md_M_ready_19 ?_
  refine mj_aload_n 0 md_M_ready_20 rfl ?_
  refine mj_getf (v := va_rf (mj_r μ h0 11)) rfl kc_M 11 (by decide) tw_634 md_M_ready_21 ht1 rfl ?_
  refine mj_iload_n 1 md_M_ready_24 rfl ?_
  refine mj_iconst (v := 1) md_M_ready_25 (by decide) ?_
  obtain ⟨b6, hb7, H⟩ := H
  obtain ⟨ht8, H⟩ := H
  obtain ⟨hi9, H⟩ := H
  refine mj_iast (t := 0) hb7 rfl ht8 hi9 md_M_ready_26 ?_
  exact mj_return md_M_ready_27 rfl H

set_option maxRecDepth 20000 in
theorem bk_U_atHand_0 {G : mj_G} {Ex : Option Value → mj_MM → Prop} {N S : Nat} {μ : mj_MM} {h0 : Nat} {v1 : Int32}
    (H : ((mj_t μ h0 = 4) ∧ mj_J G mY_U_atHand Ex N S 5 [(0, va_rf (some h0)), (1, .int v1), (2, va_rf (mj_r μ h0 0))] [] μ)) :
    mj_J G mY_U_atHand Ex N S 0 [(0, va_rf (some h0)), (1, .int v1)] [] μ := by
  refine mj_aload_n 0 md_U_atHand_0 rfl ?_
  obtain ⟨ht1, H⟩ := H
  refine mj_getf (v := va_rf (mj_r μ h0 0)) rfl kc_U 0 (by decide) tw_33 md_U_atHand_1 ht1 rfl ?_
  refine mj_astn (i := 2) (lv' := [(2, va_rf (mj_r μ h0 0)), (0, va_rf (some h0)), (1, .int v1)]) md_U_atHand_4 rfl (by decide) (by first | rfl | simp [mj_rfc]) ?_
  exact mj_lvs [1, 2, 0] rfl H

set_option maxRecDepth 20000 in
theorem bk_U_atHand_5 {G : mj_G} {Ex : Option Value → mj_MM → Prop} {N S : Nat} {μ : mj_MM} {h0 : Nat} {v1 : Int32} {v2 : Option Nat}
    (H : ((v2 = none → Ex (some (va_rf none)) μ) ∧ (∀ b1 : Nat, v2 = some b1 → ((mj_t μ b1 = 3) ∧ ((v1 < (mj_i μ b1 1) → mj_J G mY_U_atHand Ex N S 5 [(0, va_rf (some h0)), (1, .int v1), (2, va_rf (mj_r μ b1 3))] [] μ) ∧ (¬ v1 < (mj_i μ b1 1) → ((mj_t μ h0 = 4) ∧ ((mj_r μ h0 2 = none → Ex (some (va_rf v2)) μ) ∧ (∀ b5 : Nat, mj_r μ h0 2 = some b5 → (((mj_i μ b1 0) ≤ 7 → mj_J G mY_U_atHand Ex N S 5 [(0, va_rf (some h0)), (1, .int v1), (2, va_rf (mj_r μ b1 3))] [] μ) ∧ (¬ (mj_i μ b1 0) ≤ 7 → Ex (some (va_rf v2)) μ))))))))))) :
    mj_J G mY_U_atHand Ex N S 5 [(0, va_rf (some h0)), (1, .int v1), (2, va_rf v2)] [] μ := by
  refine mj_aload_n 2 md_U_atHand_5 rfl ?_
  obtain ⟨H1, H2⟩ := H
  refine mj_ifnull (tgt := 43) md_U_atHand_6 (by decide) (fun hb => ?_) (fun b1 hb2 => ?_)
  · replace H := H1 hb
    refine mj_null md_U_atHand_43 ?_
    exact mj_areturn md_U_atHand_44 rfl (Or.inl ⟨_, rfl⟩) H
  · replace H := H2 b1 hb2
    refine mj_aload_n 2 md_U_atHand_9 rfl ?_
    obtain ⟨ht3, H⟩ := H
    refine mj_getf (v := .int (mj_i μ b1 1)) hb2 kc_I 1 (by decide) tw_367 md_U_atHand_10 ht3 rfl ?_
    refine mj_iload_n 1 md_U_atHand_13 rfl ?_
    obtain ⟨H1, H2⟩ := H
    refine mj_icmp_gt (tgt := 35) md_U_atHand_14 (by decide) (fun hx => ?_) (fun hx => ?_)
    · replace H := H1 hx
      refine mj_aload_n 2 md_U_atHand_35 rfl ?_
      refine mj_getf (v := va_rf (mj_r μ b1 3)) hb2 kc_I 3 (by decide) tw_371 md_U_atHand_36 ht3 rfl ?_
      refine mj_astn (i := 2) (lv' := [(2, va_rf (mj_r μ b1 3)), (0, va_rf (some h0)), (1, .int v1)]) md_U_atHand_39 rfl (by decide) (by first | rfl | simp [mj_rfc]) ?_
      refine mj_goto (tgt := 5) md_U_atHand_40 (by decide) ?_
      exact mj_lvs [1, 2, 0] rfl H
    · replace H := H2 hx
      refine mj_aload_n 0 md_U_atHand_17 rfl ?_
      obtain ⟨ht4, H⟩ := H
      refine mj_getf (v := va_rf (mj_r μ h0 2)) rfl kc_U 2 (by decide) tw_36 md_U_atHand_18 ht4 rfl ?_
      obtain ⟨H1, H2⟩ := H
      refine mj_ifnull (tgt := 33) md_U_atHand_21 (by decide) (fun hb => ?_) (fun b5 hb6 => ?_)
      · replace H := H1 hb
        refine mj_aload_n 2 md_U_atHand_33 rfl ?_
        exact mj_areturn md_U_atHand_34 rfl (Or.inl ⟨_, rfl⟩) H
      · replace H := H2 b5 hb6
        refine mj_aload_n 2 md_U_atHand_24 rfl ?_
        refine mj_getf (v := .int (mj_i μ b1 0)) hb2 kc_I 0 (by decide) tw_364 md_U_atHand_25 ht3 rfl ?_
        refine mj_bipush (v := 7) md_U_atHand_28 (by decide) ?_
        obtain ⟨H1, H2⟩ := H
        refine mj_icmp_le (tgt := 35) md_U_atHand_30 (by decide) (fun hx => ?_) (fun hx => ?_)
        · replace H := H1 hx
          refine mj_aload_n 2 md_U_atHand_35 rfl ?_
          refine mj_getf (v := va_rf (mj_r μ b1 3)) hb2 kc_I 3 (by decide) tw_371 md_U_atHand_36 ht3 rfl ?_
          refine mj_astn (i := 2) (lv' := [(2, va_rf (mj_r μ b1 3)), (0, va_rf (some h0)), (1, .int v1)]) md_U_atHand_39 rfl (by decide) (by first | rfl | simp [mj_rfc]) ?_
          refine mj_goto (tgt := 5) md_U_atHand_40 (by decide) ?_
          exact mj_lvs [1, 2, 0] rfl H
        · replace H := H2 hx
          refine mj_aload_n 2 md_U_atHand_33 rfl ?_
          exact mj_areturn md_U_atHand_34 rfl (Or.inl ⟨_, rfl⟩) H

set_option maxRecDepth 20000 in
theorem bk_G_add_0 {G : mj_G} {Ex : Option Value → mj_MM → Prop} {N S : Nat} {μ : mj_MM} {h0 : Nat} {v1 : Int32} {v2 : Int32} {v3 : Int32}
    (H : ((mj_t μ h0 = 6) ∧ (((mj_i μ h0 2) < 0 → Ex none (mj_pI μ h0 2 ((mj_i μ h0 2) + 1))) ∧ (¬ (mj_i μ h0 2) < 0 → (((mj_i μ h0 1) ≤ (mj_i μ h0 2) → Ex none (mj_pI μ h0 2 ((mj_i μ h0 2) + 1))) ∧ (¬ (mj_i μ h0 1) ≤ (mj_i μ h0 2) → (∃ b2 : Nat, (mj_r μ h0 0 = some b2) ∧ (mj_t μ b2 = 1008) ∧ ((((mj_i μ h0 2) / 512) < (nI (mj_n μ b2)) → ((vp_in ((mj_i μ h0 2) / 512) (mj_n μ b2)) ∧ ((mj_r (mj_pI μ h0 2 ((mj_i μ h0 2) + 1)) b2 (Int32.toNatClampNeg ((mj_i μ h0 2) / 512)) = none → ((mj_nc μ + 1 ≤ N ∧ mj_ns μ + 512 ≤ S) ∧ ∀ a9 : Nat, mj_t μ a9 = 0 → (vp_in ((mj_i μ h0 2) / 512) (mj_n (mj_new μ a9 1001 512 512) b2)) ∧ ∃ b15 : Nat, (mj_r (mj_pR (mj_new (mj_pI μ h0 2 ((mj_i μ h0 2) + 1)) a9 1001 512 512) b2 (Int32.toNatClampNeg ((mj_i μ h0 2) / 512)) (some a9)) h0 0 = some b15) ∧ (mj_t (mj_new μ a9 1001 512 512) b15 = 1008) ∧ (vp_in ((mj_i μ h0 2) / 512) (mj_n (mj_new μ a9 1001 512 512) b15)) ∧ ∃ b19 : Nat, (mj_r (mj_pR (mj_new (mj_pI μ h0 2 ((mj_i μ h0 2) + 1)) a9 1001 512 512) b2 (Int32.toNatClampNeg ((mj_i μ h0 2) / 512)) (some a9)) b15 (Int32.toNatClampNeg ((mj_i μ h0 2) / 512)) = some b19) ∧ (mj_t (mj_new μ a9 1001 512 512) b19 = 1001) ∧ (vp_in ((mj_i μ h0 2) - (mj_i μ h0 2) / 512 * 512) (mj_n (mj_new μ a9 1001 512 512) b19)) ∧ Ex none (mj_pL (mj_pR (mj_new (mj_pI μ h0 2 ((mj_i μ h0 2) + 1)) a9 1001 512 512) b2 (Int32.toNatClampNeg ((mj_i μ h0 2) / 512)) (some a9)) b19 (Int32.toNatClampNeg ((mj_i μ h0 2) - (mj_i μ h0 2) / 512 * 512)) ((((Int32.toInt64 v1) <<< (Int32.toInt64 40 &&& 63)) ||| ((Int32.toInt64 v2) <<< (Int32.toInt64 20 &&& 63))) ||| (Int32.toInt64 v3))))) ∧ (∀ b6 : Nat, mj_r (mj_pI μ h0 2 ((mj_i μ h0 2) + 1)) b2 (Int32.toNatClampNeg ((mj_i μ h0 2) / 512)) = some b6 → ((vp_in ((mj_i μ h0 2) / 512) (mj_n μ b2)) ∧ (mj_t μ b6 = 1001) ∧ (vp_in ((mj_i μ h0 2) - (mj_i μ h0 2) / 512 * 512) (mj_n μ b6)) ∧ Ex none (mj_pL (mj_pI μ h0 2 ((mj_i μ h0 2) + 1)) b6 (Int32.toNatClampNeg ((mj_i μ h0 2) - (mj_i μ h0 2) / 512 * 512)) ((((Int32.toInt64 v1) <<< (Int32.toInt64 40 &&& 63)) ||| ((Int32.toInt64 v2) <<< (Int32.toInt64 20 &&& 63))) ||| (Int32.toInt64 v3)))))))) ∧ (¬ ((mj_i μ h0 2) / 512) < (nI (mj_n μ b2)) → Ex none (mj_pI μ h0 2 ((mj_i μ h0 2) + 1))))))))))) :
    mj_J G mY_G_add Ex N S 0 [(0, va_rf (some h0)), (1, .int v1), (2, .int v2), (3, .int v3)] [] μ := by
  refine mj_aload_n 0 md_G_add_0 rfl ?_
  obtain ⟨ht1, H⟩ := H
  refine mj_getf (v := .int (mj_i μ h0 2)) rfl kc_G 2 (by decide) tw_62 md_G_add_1 ht1 rfl ?_
  refine mj_istore (lv' := [(4, .int (mj_i μ h0 2)), (0, va_rf (some h0)), (1, .int v1), (2, .int v2), (3, .int v3)]) md_G_add_4 (by decide) (by first | rfl | simp [mj_rfc]) ?_
  refine mj_aload_n 1 md_G_add_6 rfl ?_
  refine mj_dup md_G_add_7 (mj_rfc _) ?_
  refine mj_getf (v := .int (mj_i μ h0 2)) rfl kc_G 2 (by decide) tw_62 md_G_add_8 ht1 rfl ?_
  refine mj_iconst (v := 1) md_G_add_11 (by decide) ?_
  refine mj_iadd md_G_add_12 ?_
  refine mj_putI rfl kc_G 2 (by decide) rfl tw_62 md_G_add_13 (Or.inl rfl) ht1 rfl rfl ?_
  refine mj_iload 0 md_G_add_16 rfl ?_
  refine mj_sipush (v := 512) md_G_add_18 (by decide) ?_
  refine mj_idiv md_G_add_21 (by decide) ?_
  refine mj_istore (lv' := [(5, .int ((mj_i μ h0 2) / 512)), (4, .int (mj_i μ h0 2)), (0, va_rf (some h0)), (1, .int v1), (2, .int v2), (3, .int v3)]) md_G_add_22 (by decide) (by first | rfl | simp [mj_rfc]) ?_
  refine mj_iload 1 md_G_add_24 rfl ?_
  obtain ⟨H1, H2⟩ := H
  refine mj_if_lt (tgt := 48) md_G_add_26 (by decide) (fun hx => ?_) (fun hx => ?_)
  · replace H := H1 hx
    exact mj_return md_G_add_48 rfl H
  · replace H := H2 hx
    refine mj_iload 1 md_G_add_29 rfl ?_
    refine mj_aload_n 2 md_G_add_31 rfl ?_
    refine mj_getf (v := .int (mj_i μ h0 1)) rfl kc_G 1 (by decide) tw_61 md_G_add_32 ht1 rfl ?_
    obtain ⟨H1, H2⟩ := H
    refine mj_icmp_ge (tgt := 48) md_G_add_35 (by decide) (fun hx => ?_) (fun hx => ?_)
    · replace H := H1 hx
      exact mj_return md_G_add_48 rfl H
    · replace H := H2 hx
      refine mj_iload 0 md_G_add_38 rfl ?_
      refine mj_aload_n 2 md_G_add_40 rfl ?_
      refine mj_getf (v := va_rf (mj_r μ h0 0)) rfl kc_G 0 (by decide) tw_60 md_G_add_41 ht1 rfl ?_
      obtain ⟨b2, hb3, H⟩ := H
      obtain ⟨ht4, H⟩ := H
      refine mj_alen (t := 8) hb3 rfl ht4 md_G_add_44 ?_
      obtain ⟨H1, H2⟩ := H
      refine mj_icmp_lt (tgt := 49) md_G_add_45 (by decide) (fun hx => ?_) (fun hx => ?_)
      · replace H := H1 hx
        refine mj_aload_n 2 md_G_add_49 rfl ?_
        refine mj_getf (v := va_rf (mj_r μ h0 0)) rfl kc_G 0 (by decide) tw_60 md_G_add_50 ht1 rfl ?_
        refine mj_iload 0 md_G_add_53 rfl ?_
        obtain ⟨hi5, H⟩ := H
        refine mj_aald (t := 8) hb3 rfl rfl ht4 hi5 md_G_add_55 ?_
        obtain ⟨H1, H2⟩ := H
        refine mj_ifnonnull (tgt := 71) md_G_add_56 (by decide) (fun b6 hb7 => ?_) (fun hb => ?_)
        · replace H := H2 b6 hb7
          refine mj_aload_n 2 md_G_add_71 rfl ?_
          refine mj_getf (v := va_rf (mj_r μ h0 0)) rfl kc_G 0 (by decide) tw_60 md_G_add_72 ht1 rfl ?_
          refine mj_iload 0 md_G_add_75 rfl ?_
          obtain ⟨hi23, H⟩ := H
          refine mj_aald (t := 8) hb3 rfl rfl ht4 hi23 md_G_add_77 ?_
          refine mj_iload 1 md_G_add_78 rfl ?_
          refine mj_sipush (v := 512) md_G_add_80 (by decide) ?_
          refine mj_irem md_G_add_83 (by decide) ?_
          refine mj_iload_n 3 md_G_add_84 rfl ?_
          refine mj_i2l md_G_add_85 ?_
          refine mj_bipush (v := 40) md_G_add_86 (by decide) ?_
          refine mj_lshl md_G_add_88 ?_
          refine mj_iload_n 4 md_G_add_89 rfl ?_
          refine mj_i2l md_G_add_90 ?_
          refine mj_bipush (v := 20) md_G_add_91 (by decide) ?_
          refine mj_lshl md_G_add_93 ?_
          refine mj_lor md_G_add_94 ?_
          refine mj_iload_n 5 md_G_add_95 rfl ?_
          refine mj_i2l md_G_add_96 ?_
          refine mj_lor md_G_add_97 ?_
          obtain ⟨ht24, H⟩ := H
          obtain ⟨hi25, H⟩ := H
          refine mj_last (t := 1) hb7 rfl ht24 hi25 md_G_add_98 ?_
          exact mj_return md_G_add_99 rfl H
        · replace H := H1 hb
          refine mj_aload_n 2 md_G_add_59 rfl ?_
          refine mj_getf (v := va_rf (mj_r μ h0 0)) rfl kc_G 0 (by decide) tw_60 md_G_add_60 ht1 rfl ?_
          refine mj_iload 0 md_G_add_63 rfl ?_
          refine mj_sipush (v := 512) md_G_add_65 (by decide) ?_
          obtain ⟨hn8, H⟩ := H
          refine mj_newa (t := 1) rfl rfl rfl tw_557 md_G_add_68 rfl (by decide) (by decide) hn8.1 hn8.2 (fun a9 ha10 => ?_)
          replace H := H a9 ha10
          have ht11 : mj_t (mj_new μ a9 1001 512 512) h0 = 6 := mj_tk ht1 (by decide) ha10
          have ht12 : mj_t (mj_new μ a9 1001 512 512) b2 = 1008 := mj_tk ht4 (by decide) ha10
          have ht13 : mj_t (mj_new μ a9 1001 512 512) a9 = 1001 := mj_tn
          obtain ⟨hi14, H⟩ := H
          refine mj_aastA (t := 8) (tv := 1) hb3 rfl rfl ht12 rfl ht13 hi14 md_G_add_70 ?_
          refine mj_aload_n 2 md_G_add_71 rfl ?_
          refine mj_getf (v := va_rf (mj_r (mj_pR (mj_new (mj_pI μ h0 2 ((mj_i μ h0 2) + 1)) a9 1001 512 512) b2 (Int32.toNatClampNeg ((mj_i μ h0 2) / 512)) (some a9)) h0 0)) rfl kc_G 0 (by decide) tw_60 md_G_add_72 ht11 rfl ?_
          refine mj_iload 0 md_G_add_75 rfl ?_
          obtain ⟨b15, hb16, H⟩ := H
          obtain ⟨ht17, H⟩ := H
          obtain ⟨hi18, H⟩ := H
          refine mj_aald (t := 8) hb16 rfl rfl ht17 hi18 md_G_add_77 ?_
          refine mj_iload 1 md_G_add_78 rfl ?_
          refine mj_sipush (v := 512) md_G_add_80 (by decide) ?_
          refine mj_irem md_G_add_83 (by decide) ?_
          refine mj_iload_n 3 md_G_add_84 rfl ?_
          refine mj_i2l md_G_add_85 ?_
          refine mj_bipush (v := 40) md_G_add_86 (by decide) ?_
          refine mj_lshl md_G_add_88 ?_
          refine mj_iload_n 4 md_G_add_89 rfl ?_
          refine mj_i2l md_G_add_90 ?_
          refine mj_bipush (v := 20) md_G_add_91 (by decide) ?_
          refine mj_lshl md_G_add_93 ?_
          refine mj_lor md_G_add_94 ?_
          refine mj_iload_n 5 md_G_add_95 rfl ?_
          refine mj_i2l md_G_add_96 ?_
          refine mj_lor md_G_add_97 ?_
          obtain ⟨b19, hb20, H⟩ := H
          obtain ⟨ht21, H⟩ := H
          obtain ⟨hi22, H⟩ := H
          refine mj_last (t := 1) hb20 rfl ht21 hi22 md_G_add_98 ?_
          exact mj_return md_G_add_99 rfl H
      · replace H := H2 hx
        exact mj_return md_G_add_48 rfl H

set_option maxRecDepth 20000 in
theorem bk_K_addPart_0 {G : mj_G} {Ex : Option Value → mj_MM → Prop} {N S : Nat} {μ : mj_MM} {h0 : Nat} {v1 : Option Nat}
    (H : ((mj_t μ h0 = 9) ∧ ∃ b2 : Nat, (mj_r μ h0 6 = some b2) ∧ (mj_t μ b2 = 7) ∧ mj_J G mY_K_addPart Ex N S 16 [(1, va_rf v1), (2, .int 1), (3, va_rf (mj_r μ h0 6)), (4, va_rf (mj_r μ b2 2))] [] μ)) :
    mj_J G mY_K_addPart Ex N S 0 [(0, va_rf (some h0)), (1, va_rf v1)] [] μ := by
  refine mj_iconst (v := 1) md_K_addPart_0 (by decide) ?_
  refine mj_istn (i := 2) (lv' := [(2, .int 1), (0, va_rf (some h0)), (1, va_rf v1)]) md_K_addPart_1 rfl (by decide) (by first | rfl | simp [mj_rfc]) ?_
  refine mj_aload_n 1 md_K_addPart_2 rfl ?_
  obtain ⟨ht1, H⟩ := H
  refine mj_getf (v := va_rf (mj_r μ h0 6)) rfl kc_K 6 (by decide) tw_225 md_K_addPart_3 ht1 rfl ?_
  refine mj_astn (i := 3) (lv' := [(3, va_rf (mj_r μ h0 6)), (2, .int 1), (0, va_rf (some h0)), (1, va_rf v1)]) md_K_addPart_6 rfl (by decide) (by first | rfl | simp [mj_rfc]) ?_
  refine mj_aload_n 2 md_K_addPart_7 rfl ?_
  refine mj_getf (v := va_rf (mj_r μ h0 6)) rfl kc_K 6 (by decide) tw_225 md_K_addPart_8 ht1 rfl ?_
  obtain ⟨b2, hb3, H⟩ := H
  obtain ⟨ht4, H⟩ := H
  refine mj_getf (v := va_rf (mj_r μ b2 2)) hb3 kc_P 2 (by decide) tw_202 md_K_addPart_11 ht4 rfl ?_
  refine mj_astore (lv' := [(4, va_rf (mj_r μ b2 2)), (3, va_rf (mj_r μ h0 6)), (2, .int 1), (0, va_rf (some h0)), (1, va_rf v1)]) md_K_addPart_14 (by decide) (by first | rfl | simp [mj_rfc]) ?_
  exact mj_lvs [4, 2, 1, 0] rfl H

set_option maxRecDepth 20000 in
theorem bk_K_addPart_16 {G : mj_G} {Ex : Option Value → mj_MM → Prop} {N S : Nat} {μ : mj_MM} {v1 : Option Nat} {v2 : Int32} {v3 : Option Nat} {v4 : Option Nat}
    (H : ((v4 = none → (∃ b3 : Nat, (v3 = some b3) ∧ (mj_t μ b3 = 7) ∧ Ex (some (.int v2)) (mj_pR μ b3 2 v1))) ∧ (∀ b1 : Nat, v4 = some b1 → ((mj_t μ b1 = 7) ∧ mj_J G mY_K_addPart Ex N S 16 [(1, va_rf v1), (2, .int (v2 + 1)), (3, va_rf v4), (4, va_rf (mj_r μ b1 2))] [] μ)))) :
    mj_J G mY_K_addPart Ex N S 16 [(1, va_rf v1), (2, .int v2), (3, va_rf v3), (4, va_rf v4)] [] μ := by
  refine mj_aload 3 md_K_addPart_16 rfl ?_
  obtain ⟨H1, H2⟩ := H
  refine mj_ifnull (tgt := 37) md_K_addPart_18 (by decide) (fun hb => ?_) (fun b1 hb2 => ?_)
  · replace H := H1 hb
    refine mj_aload_n 2 md_K_addPart_37 rfl ?_
    refine mj_aload_n 0 md_K_addPart_38 rfl ?_
    obtain ⟨b3, hb4, H⟩ := H
    obtain ⟨ht5, H⟩ := H
    refine mj_putR hb4 kc_P 2 (by decide) rfl tw_202 md_K_addPart_39 (Or.inl rfl) ht5 ?_
    refine mj_iload_n 1 md_K_addPart_42 rfl ?_
    exact mj_ireturn md_K_addPart_43 rfl rfl H
  · replace H := H2 b1 hb2
    refine mj_aload 3 md_K_addPart_21 rfl ?_
    refine mj_astn (i := 3) (lv' := [(3, va_rf v4), (1, va_rf v1), (2, .int v2), (4, va_rf v4)]) md_K_addPart_23 rfl (by decide) (by first | rfl | simp [mj_rfc]) ?_
    refine mj_iinc (j := 2) (v := v2 + 1) (lv' := [(2, .int (v2 + 1)), (3, va_rf v4), (1, va_rf v1), (4, va_rf v4)]) md_K_addPart_24 rfl rfl (by decide) (by first | rfl | simp [mj_rfc]) ?_
    refine mj_aload 3 md_K_addPart_27 rfl ?_
    obtain ⟨ht6, H⟩ := H
    refine mj_getf (v := va_rf (mj_r μ b1 2)) hb2 kc_P 2 (by decide) tw_202 md_K_addPart_29 ht6 rfl ?_
    refine mj_astore (lv' := [(4, va_rf (mj_r μ b1 2)), (2, .int (v2 + 1)), (3, va_rf v4), (1, va_rf v1)]) md_K_addPart_32 (by decide) (by first | rfl | simp [mj_rfc]) ?_
    refine mj_goto (tgt := 16) md_K_addPart_34 (by decide) ?_
    exact mj_lvs [3, 1, 2, 0] rfl H

set_option maxRecDepth 20000 in
theorem bk_K_mayBeSet_0 {G : mj_G} {Ex : Option Value → mj_MM → Prop} {N S : Nat} {μ : mj_MM} {h0 : Nat}
    (H : ((mj_t μ h0 = 9) ∧ (((mj_i μ h0 4) = 0 → Ex (some (.int 0)) μ) ∧ (¬ (mj_i μ h0 4) = 0 → (((mj_i μ h0 9) = 0 → Ex (some (.int 0)) μ) ∧ (¬ (mj_i μ h0 9) = 0 → Ex (some (.int 1)) μ)))))) :
    mj_J G mY_K_mayBeSet Ex N S 0 [(0, va_rf (some h0))] [] μ := by
  refine mj_aload_n 0 md_K_mayBeSet_0 rfl ?_
  obtain ⟨ht1, H⟩ := H
  refine mj_getf (v := .int (mj_i μ h0 4)) rfl kc_K 4 (by decide) tw_221 md_K_mayBeSet_1 ht1 rfl ?_
  obtain ⟨H1, H2⟩ := H
  refine mj_if_eq (tgt := 18) md_K_mayBeSet_4 (by decide) (fun hx => ?_) (fun hx => ?_)
  · replace H := H1 hx
    refine mj_iconst (v := 0) md_K_mayBeSet_18 (by decide) ?_
    exact mj_ireturn md_K_mayBeSet_19 rfl (by decide) H
  · replace H := H2 hx
    refine mj_aload_n 0 md_K_mayBeSet_7 rfl ?_
    refine mj_getf (v := .int (mj_i μ h0 9)) rfl kc_K 9 (by decide) tw_231 md_K_mayBeSet_8 ht1 rfl ?_
    obtain ⟨H1, H2⟩ := H
    refine mj_if_eq (tgt := 18) md_K_mayBeSet_11 (by decide) (fun hx => ?_) (fun hx => ?_)
    · replace H := H1 hx
      refine mj_iconst (v := 0) md_K_mayBeSet_18 (by decide) ?_
      exact mj_ireturn md_K_mayBeSet_19 rfl (by decide) H
    · replace H := H2 hx
      refine mj_iconst (v := 1) md_K_mayBeSet_14 (by decide) ?_
      refine mj_goto (tgt := 19) md_K_mayBeSet_15 (by decide) ?_
      exact mj_ireturn md_K_mayBeSet_19 rfl (by decide) H

set_option maxRecDepth 20000 in
theorem bk_K_height_0 {G : mj_G} {Ex : Option Value → mj_MM → Prop} {N S : Nat} {μ : mj_MM} {h0 : Nat}
    (H : ((mj_t μ h0 = 9) ∧ mj_J G mY_K_height Ex N S 10 [(1, .int (mj_i μ h0 1)), (2, va_rf (mj_r μ h0 15))] [] μ)) :
    mj_J G mY_K_height Ex N S 0 [(0, va_rf (some h0))] [] μ := by
  refine mj_aload_n 0 md_K_height_0 rfl ?_
  obtain ⟨ht1, H⟩ := H
  refine mj_getf (v := .int (mj_i μ h0 1)) rfl kc_K 1 (by decide) tw_214 md_K_height_1 ht1 rfl ?_
  refine mj_istn (i := 1) (lv' := [(1, .int (mj_i μ h0 1)), (0, va_rf (some h0))]) md_K_height_4 rfl (by decide) (by first | rfl | simp [mj_rfc]) ?_
  refine mj_aload_n 1 md_K_height_5 rfl ?_
  refine mj_getf (v := va_rf (mj_r μ h0 15)) rfl kc_K 15 (by decide) tw_240 md_K_height_6 ht1 rfl ?_
  refine mj_astn (i := 2) (lv' := [(2, va_rf (mj_r μ h0 15)), (1, .int (mj_i μ h0 1)), (0, va_rf (some h0))]) md_K_height_9 rfl (by decide) (by first | rfl | simp [mj_rfc]) ?_
  exact mj_lvs [1, 0] rfl H

set_option maxRecDepth 20000 in
theorem bk_K_height_10 {G : mj_G} {Ex : Option Value → mj_MM → Prop} {N S : Nat} {μ : mj_MM} {v1 : Int32} {v2 : Option Nat}
    (H : ((v2 = none → Ex (some (.int v1)) μ) ∧ (∀ b1 : Nat, v2 = some b1 → ((mj_t μ b1 = 8) ∧ mj_J G mY_K_height Ex N S 10 [(1, .int (if v1 < (mj_i μ b1 0) then (mj_i μ b1 0) else v1)), (2, va_rf (mj_r μ b1 2))] [] μ)))) :
    mj_J G mY_K_height Ex N S 10 [(1, .int v1), (2, va_rf v2)] [] μ := by
  refine mj_aload_n 1 md_K_height_10 rfl ?_
  obtain ⟨H1, H2⟩ := H
  refine mj_ifnull (tgt := 31) md_K_height_11 (by decide) (fun hb => ?_) (fun b1 hb2 => ?_)
  · replace H := H1 hb
    refine mj_iload_n 0 md_K_height_31 rfl ?_
    exact mj_ireturn md_K_height_32 rfl rfl H
  · replace H := H2 b1 hb2
    refine mj_iload_n 0 md_K_height_14 rfl ?_
    refine mj_aload_n 1 md_K_height_15 rfl ?_
    obtain ⟨ht3, H⟩ := H
    refine mj_getf (v := .int (mj_i μ b1 0)) hb2 kc_R 0 (by decide) tw_112 md_K_height_16 ht3 rfl ?_
    refine mj_max tw_437 tw_56 tw_4 tw_57 md_K_height_19 (by decide) (by first | decide | simp [mj_rfc, Value.category]) ?_
    refine mj_istn (i := 1) (lv' := [(1, .int (if v1 < (mj_i μ b1 0) then (mj_i μ b1 0) else v1)), (2, va_rf v2)]) md_K_height_22 rfl (by decide) (by first | rfl | simp [mj_rfc]) ?_
    refine mj_aload_n 1 md_K_height_23 rfl ?_
    refine mj_getf (v := va_rf (mj_r μ b1 2)) hb2 kc_R 2 (by decide) tw_114 md_K_height_24 ht3 rfl ?_
    refine mj_astn (i := 2) (lv' := [(2, va_rf (mj_r μ b1 2)), (1, .int (if v1 < (mj_i μ b1 0) then (mj_i μ b1 0) else v1))]) md_K_height_27 rfl (by decide) (by first | rfl | simp [mj_rfc]) ?_
    refine mj_goto (tgt := 10) md_K_height_28 (by decide) ?_
    exact mj_lvs [1, 0] rfl H

set_option maxRecDepth 20000 in
theorem bk_K_comesBefore_0 {G : mj_G} {Ex : Option Value → mj_MM → Prop} {N S : Nat} {μ : mj_MM} {h0 : Nat} {v1 : Option Nat}
    (H : ((mj_t μ h0 = 9) ∧ (∃ P : Int32 → mj_MM → Prop, mj_M G my_K_height mY_K_height [va_rf (some h0)] (mj_nc μ) (mj_ns μ) μ (mj_XI P) ∧ ∀ (x : Int32) (μ' : mj_MM), P x μ' → mj_nc μ' = mj_nc μ → mj_ns μ' = mj_ns μ → mj_J G mY_K_comesBefore Ex N S 4 [(0, va_rf (some h0)), (1, va_rf v1)] [.int x] μ'))) :
    mj_J G mY_K_comesBefore Ex N S 0 [(0, va_rf (some h0)), (1, va_rf v1)] [] μ := by
  refine mj_aload_n 0 md_K_comesBefore_0 rfl ?_
  obtain ⟨ht1, H⟩ := H
  obtain ⟨P, hM, H⟩ := H
  exact mj_callV (n := 0) (As := []) rfl hM kc_K ht1 ⟨tw_433, tw_9, tw_436, ⟨by decide, by decide, by decide +kernel⟩, by decide, by decide⟩ tw_434 tw_435 rfl md_K_comesBefore_1 (by first | decide | simp [mj_rfc, Value.category]) id (mj_kI (fun x μ' hP e1 e2 => mj_lvs [0, 1] rfl (H x μ' hP e1 e2)))

set_option maxRecDepth 20000 in
theorem bk_K_comesBefore_4 {G : mj_G} {Ex : Option Value → mj_MM → Prop} {N S : Nat} {μ : mj_MM} {h0 : Nat} {v1 : Option Nat} {s0 : Int32}
    (H : (∃ b1 : Nat, (v1 = some b1) ∧ (mj_t μ b1 = 9) ∧ (∃ P : Int32 → mj_MM → Prop, mj_M G my_K_height mY_K_height [va_rf (some b1)] (mj_nc μ) (mj_ns μ) μ (mj_XI P) ∧ ∀ (x : Int32) (μ' : mj_MM), P x μ' → mj_nc μ' = mj_nc μ → mj_ns μ' = mj_ns μ → mj_J G mY_K_comesBefore Ex N S 9 [(0, va_rf (some h0)), (1, va_rf v1), (2, .int s0)] [.int x] μ'))) :
    mj_J G mY_K_comesBefore Ex N S 4 [(0, va_rf (some h0)), (1, va_rf v1)] [.int s0] μ := by
  refine mj_istn (i := 2) (lv' := [(2, .int s0), (0, va_rf (some h0)), (1, va_rf v1)]) md_K_comesBefore_4 rfl (by decide) (by first | rfl | simp [mj_rfc]) ?_
  refine mj_aload_n 2 md_K_comesBefore_5 rfl ?_
  obtain ⟨b1, hb2, H⟩ := H
  obtain ⟨ht3, H⟩ := H
  obtain ⟨P, hM, H⟩ := H
  exact mj_callV (n := 0) (As := []) hb2 hM kc_K ht3 ⟨tw_433, tw_9, tw_436, ⟨by decide, by decide, by decide +kernel⟩, by decide, by decide⟩ tw_434 tw_435 rfl md_K_comesBefore_6 (by first | decide | simp [mj_rfc, Value.category]) id (mj_kI (fun x μ' hP e1 e2 => mj_lvs [1, 2, 0] rfl (H x μ' hP e1 e2)))

set_option maxRecDepth 20000 in
theorem bk_K_comesBefore_9 {G : mj_G} {Ex : Option Value → mj_MM → Prop} {N S : Nat} {μ : mj_MM} {h0 : Nat} {v1 : Option Nat} {v2 : Int32} {s0 : Int32}
    (H : ((s0 < v2 → Ex (some (.int 1)) μ) ∧ (¬ s0 < v2 → ((¬ v2 = s0 → Ex (some (.int 0)) μ) ∧ (v2 = s0 → (∃ b1 : Nat, (v1 = some b1) ∧ (mj_t μ b1 = 9) ∧ (((mj_i μ b1 9) = 2 → Ex (some (.int 0)) μ) ∧ (¬ (mj_i μ b1 9) = 2 → ((mj_t μ h0 = 9) ∧ (((mj_i μ b1 10) ≤ (mj_i μ h0 10) → Ex (some (.int 0)) μ) ∧ (¬ (mj_i μ b1 10) ≤ (mj_i μ h0 10) → Ex (some (.int 1)) μ))))))))))) :
    mj_J G mY_K_comesBefore Ex N S 9 [(0, va_rf (some h0)), (1, va_rf v1), (2, .int v2)] [.int s0] μ := by
  refine mj_istn (i := 3) (lv' := [(3, .int s0), (0, va_rf (some h0)), (1, va_rf v1), (2, .int v2)]) md_K_comesBefore_9 rfl (by decide) (by first | rfl | simp [mj_rfc]) ?_
  refine mj_iload_n 3 md_K_comesBefore_10 rfl ?_
  refine mj_iload_n 0 md_K_comesBefore_11 rfl ?_
  obtain ⟨H1, H2⟩ := H
  refine mj_icmp_gt (tgt := 39) md_K_comesBefore_12 (by decide) (fun hx => ?_) (fun hx => ?_)
  · replace H := H1 hx
    refine mj_iconst (v := 1) md_K_comesBefore_39 (by decide) ?_
    refine mj_goto (tgt := 44) md_K_comesBefore_40 (by decide) ?_
    exact mj_ireturn md_K_comesBefore_44 rfl (by decide) H
  · replace H := H2 hx
    refine mj_iload_n 3 md_K_comesBefore_15 rfl ?_
    refine mj_iload_n 0 md_K_comesBefore_16 rfl ?_
    obtain ⟨H1, H2⟩ := H
    refine mj_icmp_ne (tgt := 43) md_K_comesBefore_17 (by decide) (fun hx => ?_) (fun hx => ?_)
    · replace H := H1 hx
      refine mj_iconst (v := 0) md_K_comesBefore_43 (by decide) ?_
      exact mj_ireturn md_K_comesBefore_44 rfl (by decide) H
    · replace H := H2 hx
      refine mj_aload_n 2 md_K_comesBefore_20 rfl ?_
      obtain ⟨b1, hb2, H⟩ := H
      obtain ⟨ht3, H⟩ := H
      refine mj_getf (v := .int (mj_i μ b1 9)) hb2 kc_K 9 (by decide) tw_231 md_K_comesBefore_21 ht3 rfl ?_
      refine mj_iconst (v := 2) md_K_comesBefore_24 (by decide) ?_
      obtain ⟨H1, H2⟩ := H
      refine mj_icmp_eq (tgt := 43) md_K_comesBefore_25 (by decide) (fun hx => ?_) (fun hx => ?_)
      · replace H := H1 hx
        refine mj_iconst (v := 0) md_K_comesBefore_43 (by decide) ?_
        exact mj_ireturn md_K_comesBefore_44 rfl (by decide) H
      · replace H := H2 hx
        refine mj_aload_n 1 md_K_comesBefore_28 rfl ?_
        obtain ⟨ht4, H⟩ := H
        refine mj_getf (v := .int (mj_i μ h0 10)) rfl kc_K 10 (by decide) tw_233 md_K_comesBefore_29 ht4 rfl ?_
        refine mj_aload_n 2 md_K_comesBefore_32 rfl ?_
        refine mj_getf (v := .int (mj_i μ b1 10)) hb2 kc_K 10 (by decide) tw_233 md_K_comesBefore_33 ht3 rfl ?_
        obtain ⟨H1, H2⟩ := H
        refine mj_icmp_ge (tgt := 43) md_K_comesBefore_36 (by decide) (fun hx => ?_) (fun hx => ?_)
        · replace H := H1 hx
          refine mj_iconst (v := 0) md_K_comesBefore_43 (by decide) ?_
          exact mj_ireturn md_K_comesBefore_44 rfl (by decide) H
        · replace H := H2 hx
          refine mj_iconst (v := 1) md_K_comesBefore_39 (by decide) ?_
          refine mj_goto (tgt := 44) md_K_comesBefore_40 (by decide) ?_
          exact mj_ireturn md_K_comesBefore_44 rfl (by decide) H

set_option maxRecDepth 20000 in
theorem bk_K_leftOfPart_0 {G : mj_G} {Ex : Option Value → mj_MM → Prop} {N S : Nat} {μ : mj_MM} {h0 : Nat}
    (H : ((mj_t μ h0 = 9) ∧ ((mj_r μ h0 7 = none → Ex (some (.int 1000000)) μ) ∧ (∀ b2 : Nat, mj_r μ h0 7 = some b2 → ((mj_t μ b2 = 7) ∧ ((¬ (mj_i μ b2 0) = 0 → Ex (some (.int 1000000)) μ) ∧ ((mj_i μ b2 0) = 0 → Ex (some (.int ((mj_i μ b2 1) - (mj_i μ h0 8)))) μ))))))) :
    mj_J G mY_K_leftOfPart Ex N S 0 [(0, va_rf (some h0))] [] μ := by
  refine mj_aload_n 0 md_K_leftOfPart_0 rfl ?_
  obtain ⟨ht1, H⟩ := H
  refine mj_getf (v := va_rf (mj_r μ h0 7)) rfl kc_K 7 (by decide) tw_228 md_K_leftOfPart_1 ht1 rfl ?_
  obtain ⟨H1, H2⟩ := H
  refine mj_ifnull (tgt := 32) md_K_leftOfPart_4 (by decide) (fun hb => ?_) (fun b2 hb3 => ?_)
  · replace H := H1 hb
    refine mj_ldc (v := 1000000) tw_539 md_K_leftOfPart_32 ?_
    exact mj_ireturn md_K_leftOfPart_34 rfl rfl H
  · replace H := H2 b2 hb3
    refine mj_aload_n 0 md_K_leftOfPart_7 rfl ?_
    refine mj_getf (v := va_rf (mj_r μ h0 7)) rfl kc_K 7 (by decide) tw_228 md_K_leftOfPart_8 ht1 rfl ?_
    obtain ⟨ht4, H⟩ := H
    refine mj_getf (v := .int (mj_i μ b2 0)) hb3 kc_P 0 (by decide) tw_197 md_K_leftOfPart_11 ht4 rfl ?_
    obtain ⟨H1, H2⟩ := H
    refine mj_if_ne (tgt := 32) md_K_leftOfPart_14 (by decide) (fun hx => ?_) (fun hx => ?_)
    · replace H := H1 hx
      refine mj_ldc (v := 1000000) tw_539 md_K_leftOfPart_32 ?_
      exact mj_ireturn md_K_leftOfPart_34 rfl rfl H
    · replace H := H2 hx
      refine mj_aload_n 0 md_K_leftOfPart_17 rfl ?_
      refine mj_getf (v := va_rf (mj_r μ h0 7)) rfl kc_K 7 (by decide) tw_228 md_K_leftOfPart_18 ht1 rfl ?_
      refine mj_getf (v := .int (mj_i μ b2 1)) hb3 kc_P 1 (by decide) tw_200 md_K_leftOfPart_21 ht4 rfl ?_
      refine mj_aload_n 0 md_K_leftOfPart_24 rfl ?_
      refine mj_getf (v := .int (mj_i μ h0 8)) rfl kc_K 8 (by decide) tw_230 md_K_leftOfPart_25 ht1 rfl ?_
      refine mj_isub md_K_leftOfPart_28 ?_
      refine mj_goto (tgt := 34) md_K_leftOfPart_29 (by decide) ?_
      exact mj_ireturn md_K_leftOfPart_34 rfl rfl H

set_option maxRecDepth 20000 in
theorem bk_K_spend_0 {G : mj_G} {Ex : Option Value → mj_MM → Prop} {N S : Nat} {μ : mj_MM} {h0 : Nat} {v1 : Int32}
    (H : ((mj_t μ h0 = 9) ∧ ((mj_r μ h0 7 = none → Ex none (mj_pI μ h0 14 ((mj_i μ h0 14) + v1))) ∧ (∀ b2 : Nat, mj_r μ h0 7 = some b2 → ((mj_t μ b2 = 7) ∧ (((mj_i μ b2 0) = 0 → ((((mj_i μ h0 8) + v1) < (mj_i μ b2 1) → Ex none (mj_pI (mj_pI μ h0 14 ((mj_i μ h0 14) + v1)) h0 8 ((mj_i μ h0 8) + v1))) ∧ (¬ ((mj_i μ h0 8) + v1) < (mj_i μ b2 1) → Ex none (mj_pI (mj_pR (mj_pI (mj_pI μ h0 14 ((mj_i μ h0 14) + v1)) h0 8 ((mj_i μ h0 8) + v1)) h0 7 (mj_r μ b2 2)) h0 8 0)))) ∧ (¬ (mj_i μ b2 0) = 0 → Ex none (mj_pI μ h0 14 ((mj_i μ h0 14) + v1))))))))) :
    mj_J G mY_K_spend Ex N S 0 [(0, va_rf (some h0)), (1, .int v1)] [] μ := by
  refine mj_aload_n 0 md_K_spend_0 rfl ?_
  refine mj_dup md_K_spend_1 (mj_rfc _) ?_
  obtain ⟨ht1, H⟩ := H
  refine mj_getf (v := .int (mj_i μ h0 14)) rfl kc_K 14 (by decide) tw_238 md_K_spend_2 ht1 rfl ?_
  refine mj_iload_n 1 md_K_spend_5 rfl ?_
  refine mj_iadd md_K_spend_6 ?_
  refine mj_putI rfl kc_K 14 (by decide) rfl tw_238 md_K_spend_7 (Or.inl rfl) ht1 rfl rfl ?_
  refine mj_aload_n 0 md_K_spend_10 rfl ?_
  refine mj_getf (v := va_rf (mj_r μ h0 7)) rfl kc_K 7 (by decide) tw_228 md_K_spend_11 ht1 rfl ?_
  obtain ⟨H1, H2⟩ := H
  refine mj_ifnull (tgt := 27) md_K_spend_14 (by decide) (fun hb => ?_) (fun b2 hb3 => ?_)
  · replace H := H1 hb
    exact mj_return md_K_spend_27 rfl H
  · replace H := H2 b2 hb3
    refine mj_aload_n 0 md_K_spend_17 rfl ?_
    refine mj_getf (v := va_rf (mj_r μ h0 7)) rfl kc_K 7 (by decide) tw_228 md_K_spend_18 ht1 rfl ?_
    obtain ⟨ht4, H⟩ := H
    refine mj_getf (v := .int (mj_i μ b2 0)) hb3 kc_P 0 (by decide) tw_197 md_K_spend_21 ht4 rfl ?_
    obtain ⟨H1, H2⟩ := H
    refine mj_if_eq (tgt := 28) md_K_spend_24 (by decide) (fun hx => ?_) (fun hx => ?_)
    · replace H := H1 hx
      refine mj_aload_n 0 md_K_spend_28 rfl ?_
      refine mj_dup md_K_spend_29 (mj_rfc _) ?_
      refine mj_getf (v := .int (mj_i μ h0 8)) rfl kc_K 8 (by decide) tw_230 md_K_spend_30 ht1 rfl ?_
      refine mj_iload_n 1 md_K_spend_33 rfl ?_
      refine mj_iadd md_K_spend_34 ?_
      refine mj_putI rfl kc_K 8 (by decide) rfl tw_230 md_K_spend_35 (Or.inl rfl) ht1 rfl rfl ?_
      refine mj_aload_n 0 md_K_spend_38 rfl ?_
      refine mj_getf (v := .int ((mj_i μ h0 8) + v1)) rfl kc_K 8 (by decide) tw_230 md_K_spend_39 ht1 (by show Value.int (mj_i (mj_pI (mj_pI μ h0 14 ((mj_i μ h0 14) + v1)) h0 8 ((mj_i μ h0 8) + v1)) h0 8) = _; rw [mj_sI]) ?_
      refine mj_aload_n 0 md_K_spend_42 rfl ?_
      refine mj_getf (v := va_rf (mj_r μ h0 7)) rfl kc_K 7 (by decide) tw_228 md_K_spend_43 ht1 rfl ?_
      refine mj_getf (v := .int (mj_i μ b2 1)) hb3 kc_P 1 (by decide) tw_200 md_K_spend_46 ht4 rfl ?_
      obtain ⟨H1, H2⟩ := H
      refine mj_icmp_lt (tgt := 68) md_K_spend_49 (by decide) (fun hx => ?_) (fun hx => ?_)
      · replace H := H1 hx
        exact mj_return md_K_spend_68 rfl H
      · replace H := H2 hx
        refine mj_aload_n 0 md_K_spend_52 rfl ?_
        refine mj_aload_n 0 md_K_spend_53 rfl ?_
        refine mj_getf (v := va_rf (mj_r μ h0 7)) rfl kc_K 7 (by decide) tw_228 md_K_spend_54 ht1 rfl ?_
        refine mj_getf (v := va_rf (mj_r μ b2 2)) hb3 kc_P 2 (by decide) tw_202 md_K_spend_57 ht4 rfl ?_
        refine mj_putR rfl kc_K 7 (by decide) rfl tw_228 md_K_spend_60 (Or.inl rfl) ht1 ?_
        refine mj_aload_n 0 md_K_spend_63 rfl ?_
        refine mj_iconst (v := 0) md_K_spend_64 (by decide) ?_
        refine mj_putI rfl kc_K 8 (by decide) rfl tw_230 md_K_spend_65 (Or.inl rfl) ht1 rfl rfl ?_
        exact mj_return md_K_spend_68 rfl H
    · replace H := H2 hx
      exact mj_return md_K_spend_27 rfl H
end
