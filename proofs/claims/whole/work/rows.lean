section
-- ===== PART A: goes FIRST, ahead of the names: the tables' words, and 'selects' of the private methods out of them =====
/-- a private method of a class that the tables say can be made, by its rows of tables_1 -/
def lw_okq (q : MethodName × Nat) : Prop := (q.1.cls ≠ "java/lang/invoke/MethodHandle" ∧ q.1.cls ≠ "java/lang/invoke/VarHandle") ∧ Cond.instantiable q.1.cls q.2 ∈ tables_1 ∧ Cond.privateMethod q.1 ∈ tables_1 ∧ Cond.instanceMethod q.1 ∈ tables_1
theorem lw_p0 : lw_okq (⟨"TaskCores", "coreOf", "(I)LTaskCores$Core;"⟩, 13) := ⟨⟨by decide +kernel, by decide +kernel⟩, List.mem_of_getElem? (i := 14) (by decide +kernel), List.mem_of_getElem? (i := 182) (by decide +kernel), List.mem_of_getElem? (i := 183) (by decide +kernel)⟩
theorem lw_p1 : lw_okq (⟨"TaskCores", "taskOf", "(I)LTaskCores$Task;"⟩, 13) := ⟨⟨by decide +kernel, by decide +kernel⟩, List.mem_of_getElem? (i := 14) (by decide +kernel), List.mem_of_getElem? (i := 295) (by decide +kernel), List.mem_of_getElem? (i := 296) (by decide +kernel)⟩
theorem lw_p2 : lw_okq (⟨"TaskCores", "resourceOf", "(I)LTaskCores$Resource;"⟩, 13) := ⟨⟨by decide +kernel, by decide +kernel⟩, List.mem_of_getElem? (i := 14) (by decide +kernel), List.mem_of_getElem? (i := 307) (by decide +kernel), List.mem_of_getElem? (i := 308) (by decide +kernel)⟩
theorem lw_p3 : lw_okq (⟨"TaskCores", "isToCome", "(J)Z"⟩, 13) := ⟨⟨by decide +kernel, by decide +kernel⟩, List.mem_of_getElem? (i := 14) (by decide +kernel), List.mem_of_getElem? (i := 326) (by decide +kernel), List.mem_of_getElem? (i := 327) (by decide +kernel)⟩
theorem lw_p4 : lw_okq (⟨"TaskCores", "addTelling", "(LTaskCores$Telling;)V"⟩, 13) := ⟨⟨by decide +kernel, by decide +kernel⟩, List.mem_of_getElem? (i := 14) (by decide +kernel), List.mem_of_getElem? (i := 349) (by decide +kernel), List.mem_of_getElem? (i := 350) (by decide +kernel)⟩
theorem lw_p5 : lw_okq (⟨"TaskCores", "activateThoseTold", "()V"⟩, 13) := ⟨⟨by decide +kernel, by decide +kernel⟩, List.mem_of_getElem? (i := 14) (by decide +kernel), List.mem_of_getElem? (i := 390) (by decide +kernel), List.mem_of_getElem? (i := 391) (by decide +kernel)⟩
theorem lw_p6 : lw_okq (⟨"TaskCores", "activateTask", "(LTaskCores$Task;)V"⟩, 13) := ⟨⟨by decide +kernel, by decide +kernel⟩, List.mem_of_getElem? (i := 14) (by decide +kernel), List.mem_of_getElem? (i := 394) (by decide +kernel), List.mem_of_getElem? (i := 395) (by decide +kernel)⟩
theorem lw_p7 : lw_okq (⟨"TaskCores", "startTask", "(LTaskCores$Task;)V"⟩, 13) := ⟨⟨by decide +kernel, by decide +kernel⟩, List.mem_of_getElem? (i := 14) (by decide +kernel), List.mem_of_getElem? (i := 398) (by decide +kernel), List.mem_of_getElem? (i := 399) (by decide +kernel)⟩
theorem lw_p8 : lw_okq (⟨"TaskCores", "makeReady", "(LTaskCores$Task;)V"⟩, 13) := ⟨⟨by decide +kernel, by decide +kernel⟩, List.mem_of_getElem? (i := 14) (by decide +kernel), List.mem_of_getElem? (i := 402) (by decide +kernel), List.mem_of_getElem? (i := 403) (by decide +kernel)⟩
theorem lw_p9 : lw_okq (⟨"TaskCores", "tellCode", "(ILTaskCores$Task;)V"⟩, 13) := ⟨⟨by decide +kernel, by decide +kernel⟩, List.mem_of_getElem? (i := 14) (by decide +kernel), List.mem_of_getElem? (i := 406) (by decide +kernel), List.mem_of_getElem? (i := 407) (by decide +kernel)⟩
theorem lw_p10 : lw_okq (⟨"TaskCores", "takeSteps", "()V"⟩, 13) := ⟨⟨by decide +kernel, by decide +kernel⟩, List.mem_of_getElem? (i := 14) (by decide +kernel), List.mem_of_getElem? (i := 414) (by decide +kernel), List.mem_of_getElem? (i := 415) (by decide +kernel)⟩
theorem lw_p11 : lw_okq (⟨"TaskCores", "taskWithStep", "(LTaskCores$Core;)LTaskCores$Task;"⟩, 13) := ⟨⟨by decide +kernel, by decide +kernel⟩, List.mem_of_getElem? (i := 14) (by decide +kernel), List.mem_of_getElem? (i := 418) (by decide +kernel), List.mem_of_getElem? (i := 419) (by decide +kernel)⟩
theorem lw_p12 : lw_okq (⟨"TaskCores", "choose", "(LTaskCores$Core;)V"⟩, 13) := ⟨⟨by decide +kernel, by decide +kernel⟩, List.mem_of_getElem? (i := 14) (by decide +kernel), List.mem_of_getElem? (i := 426) (by decide +kernel), List.mem_of_getElem? (i := 427) (by decide +kernel)⟩
theorem lw_p13 : lw_okq (⟨"TaskCores", "lockOf", "(I)LTaskCores$Lock;"⟩, 13) := ⟨⟨by decide +kernel, by decide +kernel⟩, List.mem_of_getElem? (i := 14) (by decide +kernel), List.mem_of_getElem? (i := 439) (by decide +kernel), List.mem_of_getElem? (i := 440) (by decide +kernel)⟩
theorem lw_p14 : lw_okq (⟨"TaskCores", "doNextPart", "(LTaskCores$Task;)V"⟩, 13) := ⟨⟨by decide +kernel, by decide +kernel⟩, List.mem_of_getElem? (i := 14) (by decide +kernel), List.mem_of_getElem? (i := 450) (by decide +kernel), List.mem_of_getElem? (i := 451) (by decide +kernel)⟩
theorem lw_p15 : lw_okq (⟨"TaskCores", "endTask", "(LTaskCores$Task;)V"⟩, 13) := ⟨⟨by decide +kernel, by decide +kernel⟩, List.mem_of_getElem? (i := 14) (by decide +kernel), List.mem_of_getElem? (i := 454) (by decide +kernel), List.mem_of_getElem? (i := 455) (by decide +kernel)⟩
def lw_privs_1 : List (MethodName × Nat) := [(⟨"TaskCores", "coreOf", "(I)LTaskCores$Core;"⟩, 13), (⟨"TaskCores", "taskOf", "(I)LTaskCores$Task;"⟩, 13), (⟨"TaskCores", "resourceOf", "(I)LTaskCores$Resource;"⟩, 13), (⟨"TaskCores", "isToCome", "(J)Z"⟩, 13), (⟨"TaskCores", "addTelling", "(LTaskCores$Telling;)V"⟩, 13), (⟨"TaskCores", "activateThoseTold", "()V"⟩, 13), (⟨"TaskCores", "activateTask", "(LTaskCores$Task;)V"⟩, 13), (⟨"TaskCores", "startTask", "(LTaskCores$Task;)V"⟩, 13), (⟨"TaskCores", "makeReady", "(LTaskCores$Task;)V"⟩, 13), (⟨"TaskCores", "tellCode", "(ILTaskCores$Task;)V"⟩, 13), (⟨"TaskCores", "takeSteps", "()V"⟩, 13), (⟨"TaskCores", "taskWithStep", "(LTaskCores$Core;)LTaskCores$Task;"⟩, 13), (⟨"TaskCores", "choose", "(LTaskCores$Core;)V"⟩, 13), (⟨"TaskCores", "lockOf", "(I)LTaskCores$Lock;"⟩, 13), (⟨"TaskCores", "doNextPart", "(LTaskCores$Task;)V"⟩, 13), (⟨"TaskCores", "endTask", "(LTaskCores$Task;)V"⟩, 13)]
theorem lw_r1 : ∀ q ∈ lw_privs_1, lw_okq q := List.forall_mem_cons.mpr ⟨lw_p0, List.forall_mem_cons.mpr ⟨lw_p1, List.forall_mem_cons.mpr ⟨lw_p2, List.forall_mem_cons.mpr ⟨lw_p3, List.forall_mem_cons.mpr ⟨lw_p4, List.forall_mem_cons.mpr ⟨lw_p5, List.forall_mem_cons.mpr ⟨lw_p6, List.forall_mem_cons.mpr ⟨lw_p7, List.forall_mem_cons.mpr ⟨lw_p8, List.forall_mem_cons.mpr ⟨lw_p9, List.forall_mem_cons.mpr ⟨lw_p10, List.forall_mem_cons.mpr ⟨lw_p11, List.forall_mem_cons.mpr ⟨lw_p12, List.forall_mem_cons.mpr ⟨lw_p13, List.forall_mem_cons.mpr ⟨lw_p14, List.forall_mem_cons.mpr ⟨lw_p15, fun _ h => absurd h List.not_mem_nil⟩⟩⟩⟩⟩⟩⟩⟩⟩⟩⟩⟩⟩⟩⟩⟩
theorem lw_p16 : lw_okq (⟨"TaskCores", "freeAll", "(LTaskCores$Task;)Z"⟩, 13) := ⟨⟨by decide +kernel, by decide +kernel⟩, List.mem_of_getElem? (i := 14) (by decide +kernel), List.mem_of_getElem? (i := 458) (by decide +kernel), List.mem_of_getElem? (i := 459) (by decide +kernel)⟩
theorem lw_p17 : lw_okq (⟨"TaskCores", "activateByTask", "(LTaskCores$Task;I)V"⟩, 13) := ⟨⟨by decide +kernel, by decide +kernel⟩, List.mem_of_getElem? (i := 14) (by decide +kernel), List.mem_of_getElem? (i := 466) (by decide +kernel), List.mem_of_getElem? (i := 467) (by decide +kernel)⟩
theorem lw_p18 : lw_okq (⟨"TaskCores", "chain", "(LTaskCores$Task;I)V"⟩, 13) := ⟨⟨by decide +kernel, by decide +kernel⟩, List.mem_of_getElem? (i := 14) (by decide +kernel), List.mem_of_getElem? (i := 470) (by decide +kernel), List.mem_of_getElem? (i := 471) (by decide +kernel)⟩
theorem lw_p19 : lw_okq (⟨"TaskCores", "waitFor", "(LTaskCores$Task;I)V"⟩, 13) := ⟨⟨by decide +kernel, by decide +kernel⟩, List.mem_of_getElem? (i := 14) (by decide +kernel), List.mem_of_getElem? (i := 474) (by decide +kernel), List.mem_of_getElem? (i := 475) (by decide +kernel)⟩
theorem lw_p20 : lw_okq (⟨"TaskCores", "setByTask", "(LTaskCores$Task;II)V"⟩, 13) := ⟨⟨by decide +kernel, by decide +kernel⟩, List.mem_of_getElem? (i := 14) (by decide +kernel), List.mem_of_getElem? (i := 479) (by decide +kernel), List.mem_of_getElem? (i := 480) (by decide +kernel)⟩
theorem lw_p21 : lw_okq (⟨"TaskCores", "setEvents", "(LTaskCores$Task;I)V"⟩, 13) := ⟨⟨by decide +kernel, by decide +kernel⟩, List.mem_of_getElem? (i := 14) (by decide +kernel), List.mem_of_getElem? (i := 487) (by decide +kernel), List.mem_of_getElem? (i := 488) (by decide +kernel)⟩
theorem lw_p22 : lw_okq (⟨"TaskCores", "clearEvents", "(LTaskCores$Task;I)V"⟩, 13) := ⟨⟨by decide +kernel, by decide +kernel⟩, List.mem_of_getElem? (i := 14) (by decide +kernel), List.mem_of_getElem? (i := 491) (by decide +kernel), List.mem_of_getElem? (i := 492) (by decide +kernel)⟩
theorem lw_p23 : lw_okq (⟨"TaskCores", "getResource", "(LTaskCores$Task;LTaskCores$Resource;)V"⟩, 13) := ⟨⟨by decide +kernel, by decide +kernel⟩, List.mem_of_getElem? (i := 14) (by decide +kernel), List.mem_of_getElem? (i := 495) (by decide +kernel), List.mem_of_getElem? (i := 496) (by decide +kernel)⟩
theorem lw_p24 : lw_okq (⟨"TaskCores", "freeResource", "(LTaskCores$Task;LTaskCores$Resource;)V"⟩, 13) := ⟨⟨by decide +kernel, by decide +kernel⟩, List.mem_of_getElem? (i := 14) (by decide +kernel), List.mem_of_getElem? (i := 499) (by decide +kernel), List.mem_of_getElem? (i := 500) (by decide +kernel)⟩
theorem lw_p25 : lw_okq (⟨"TaskCores", "takeLock", "(LTaskCores$Task;LTaskCores$Lock;)V"⟩, 13) := ⟨⟨by decide +kernel, by decide +kernel⟩, List.mem_of_getElem? (i := 14) (by decide +kernel), List.mem_of_getElem? (i := 503) (by decide +kernel), List.mem_of_getElem? (i := 504) (by decide +kernel)⟩
theorem lw_p26 : lw_okq (⟨"TaskCores", "unlock", "(LTaskCores$Task;LTaskCores$Lock;)V"⟩, 13) := ⟨⟨by decide +kernel, by decide +kernel⟩, List.mem_of_getElem? (i := 14) (by decide +kernel), List.mem_of_getElem? (i := 507) (by decide +kernel), List.mem_of_getElem? (i := 508) (by decide +kernel)⟩
theorem lw_p27 : lw_okq (⟨"TaskCores", "putOff", "(LTaskCores$Task;I)V"⟩, 13) := ⟨⟨by decide +kernel, by decide +kernel⟩, List.mem_of_getElem? (i := 14) (by decide +kernel), List.mem_of_getElem? (i := 511) (by decide +kernel), List.mem_of_getElem? (i := 512) (by decide +kernel)⟩
theorem lw_p28 : lw_okq (⟨"TaskCores", "putOn", "(LTaskCores$Task;)V"⟩, 13) := ⟨⟨by decide +kernel, by decide +kernel⟩, List.mem_of_getElem? (i := 14) (by decide +kernel), List.mem_of_getElem? (i := 515) (by decide +kernel), List.mem_of_getElem? (i := 516) (by decide +kernel)⟩
theorem lw_p29 : lw_okq (⟨"TaskCores", "tellIfOffTooLong", "()V"⟩, 13) := ⟨⟨by decide +kernel, by decide +kernel⟩, List.mem_of_getElem? (i := 14) (by decide +kernel), List.mem_of_getElem? (i := 519) (by decide +kernel), List.mem_of_getElem? (i := 520) (by decide +kernel)⟩
theorem lw_p30 : lw_okq (⟨"TaskCores", "quietMicroseconds", "(I)I"⟩, 13) := ⟨⟨by decide +kernel, by decide +kernel⟩, List.mem_of_getElem? (i := 14) (by decide +kernel), List.mem_of_getElem? (i := 523) (by decide +kernel), List.mem_of_getElem? (i := 524) (by decide +kernel)⟩
theorem lw_p31 : lw_okq (⟨"TaskCores", "passMicroseconds", "(I)I"⟩, 13) := ⟨⟨by decide +kernel, by decide +kernel⟩, List.mem_of_getElem? (i := 14) (by decide +kernel), List.mem_of_getElem? (i := 541) (by decide +kernel), List.mem_of_getElem? (i := 542) (by decide +kernel)⟩
def lw_privs_2 : List (MethodName × Nat) := [(⟨"TaskCores", "freeAll", "(LTaskCores$Task;)Z"⟩, 13), (⟨"TaskCores", "activateByTask", "(LTaskCores$Task;I)V"⟩, 13), (⟨"TaskCores", "chain", "(LTaskCores$Task;I)V"⟩, 13), (⟨"TaskCores", "waitFor", "(LTaskCores$Task;I)V"⟩, 13), (⟨"TaskCores", "setByTask", "(LTaskCores$Task;II)V"⟩, 13), (⟨"TaskCores", "setEvents", "(LTaskCores$Task;I)V"⟩, 13), (⟨"TaskCores", "clearEvents", "(LTaskCores$Task;I)V"⟩, 13), (⟨"TaskCores", "getResource", "(LTaskCores$Task;LTaskCores$Resource;)V"⟩, 13), (⟨"TaskCores", "freeResource", "(LTaskCores$Task;LTaskCores$Resource;)V"⟩, 13), (⟨"TaskCores", "takeLock", "(LTaskCores$Task;LTaskCores$Lock;)V"⟩, 13), (⟨"TaskCores", "unlock", "(LTaskCores$Task;LTaskCores$Lock;)V"⟩, 13), (⟨"TaskCores", "putOff", "(LTaskCores$Task;I)V"⟩, 13), (⟨"TaskCores", "putOn", "(LTaskCores$Task;)V"⟩, 13), (⟨"TaskCores", "tellIfOffTooLong", "()V"⟩, 13), (⟨"TaskCores", "quietMicroseconds", "(I)I"⟩, 13), (⟨"TaskCores", "passMicroseconds", "(I)I"⟩, 13)]
theorem lw_r2 : ∀ q ∈ lw_privs_2, lw_okq q := List.forall_mem_cons.mpr ⟨lw_p16, List.forall_mem_cons.mpr ⟨lw_p17, List.forall_mem_cons.mpr ⟨lw_p18, List.forall_mem_cons.mpr ⟨lw_p19, List.forall_mem_cons.mpr ⟨lw_p20, List.forall_mem_cons.mpr ⟨lw_p21, List.forall_mem_cons.mpr ⟨lw_p22, List.forall_mem_cons.mpr ⟨lw_p23, List.forall_mem_cons.mpr ⟨lw_p24, List.forall_mem_cons.mpr ⟨lw_p25, List.forall_mem_cons.mpr ⟨lw_p26, List.forall_mem_cons.mpr ⟨lw_p27, List.forall_mem_cons.mpr ⟨lw_p28, List.forall_mem_cons.mpr ⟨lw_p29, List.forall_mem_cons.mpr ⟨lw_p30, List.forall_mem_cons.mpr ⟨lw_p31, fun _ h => absurd h List.not_mem_nil⟩⟩⟩⟩⟩⟩⟩⟩⟩⟩⟩⟩⟩⟩⟩⟩
theorem lw_p32 : lw_okq (⟨"TaskCoresModel", "no", "(I)Z"⟩, 45) := ⟨⟨by decide +kernel, by decide +kernel⟩, List.mem_of_getElem? (i := 617) (by decide +kernel), List.mem_of_getElem? (i := 771) (by decide +kernel), List.mem_of_getElem? (i := 772) (by decide +kernel)⟩
theorem lw_p33 : lw_okq (⟨"TaskCoresModel", "findCeilings", "()V"⟩, 45) := ⟨⟨by decide +kernel, by decide +kernel⟩, List.mem_of_getElem? (i := 617) (by decide +kernel), List.mem_of_getElem? (i := 803) (by decide +kernel), List.mem_of_getElem? (i := 804) (by decide +kernel)⟩
theorem lw_p34 : lw_okq (⟨"TaskCoresModel", "microsecond", "()I"⟩, 45) := ⟨⟨by decide +kernel, by decide +kernel⟩, List.mem_of_getElem? (i := 617) (by decide +kernel), List.mem_of_getElem? (i := 807) (by decide +kernel), List.mem_of_getElem? (i := 808) (by decide +kernel)⟩
theorem lw_p35 : lw_okq (⟨"TaskCoresModel", "begin", "(I)V"⟩, 45) := ⟨⟨by decide +kernel, by decide +kernel⟩, List.mem_of_getElem? (i := 617) (by decide +kernel), List.mem_of_getElem? (i := 811) (by decide +kernel), List.mem_of_getElem? (i := 812) (by decide +kernel)⟩
theorem lw_p36 : lw_okq (⟨"TaskCoresModel", "tell", "(II)V"⟩, 45) := ⟨⟨by decide +kernel, by decide +kernel⟩, List.mem_of_getElem? (i := 617) (by decide +kernel), List.mem_of_getElem? (i := 815) (by decide +kernel), List.mem_of_getElem? (i := 816) (by decide +kernel)⟩
theorem lw_p37 : lw_okq (⟨"TaskCoresModel", "ready", "(I)V"⟩, 45) := ⟨⟨by decide +kernel, by decide +kernel⟩, List.mem_of_getElem? (i := 617) (by decide +kernel), List.mem_of_getElem? (i := 819) (by decide +kernel), List.mem_of_getElem? (i := 820) (by decide +kernel)⟩
theorem lw_p38 : lw_okq (⟨"TaskCoresModel", "step", "(I)Z"⟩, 45) := ⟨⟨by decide +kernel, by decide +kernel⟩, List.mem_of_getElem? (i := 617) (by decide +kernel), List.mem_of_getElem? (i := 823) (by decide +kernel), List.mem_of_getElem? (i := 824) (by decide +kernel)⟩
theorem lw_p39 : lw_okq (⟨"TaskCoresModel", "atHand", "()I"⟩, 45) := ⟨⟨by decide +kernel, by decide +kernel⟩, List.mem_of_getElem? (i := 617) (by decide +kernel), List.mem_of_getElem? (i := 827) (by decide +kernel), List.mem_of_getElem? (i := 828) (by decide +kernel)⟩
theorem lw_p40 : lw_okq (⟨"TaskCoresModel", "choose", "(I)I"⟩, 45) := ⟨⟨by decide +kernel, by decide +kernel⟩, List.mem_of_getElem? (i := 617) (by decide +kernel), List.mem_of_getElem? (i := 831) (by decide +kernel), List.mem_of_getElem? (i := 832) (by decide +kernel)⟩
theorem lw_p41 : lw_okq (⟨"TaskCoresModel", "runningOf", "(I)I"⟩, 45) := ⟨⟨by decide +kernel, by decide +kernel⟩, List.mem_of_getElem? (i := 617) (by decide +kernel), List.mem_of_getElem? (i := 835) (by decide +kernel), List.mem_of_getElem? (i := 836) (by decide +kernel)⟩
theorem lw_p42 : lw_okq (⟨"TaskCoresModel", "height", "(I)I"⟩, 45) := ⟨⟨by decide +kernel, by decide +kernel⟩, List.mem_of_getElem? (i := 617) (by decide +kernel), List.mem_of_getElem? (i := 839) (by decide +kernel), List.mem_of_getElem? (i := 840) (by decide +kernel)⟩
theorem lw_p43 : lw_okq (⟨"TaskCoresModel", "nextPart", "(I)I"⟩, 45) := ⟨⟨by decide +kernel, by decide +kernel⟩, List.mem_of_getElem? (i := 617) (by decide +kernel), List.mem_of_getElem? (i := 843) (by decide +kernel), List.mem_of_getElem? (i := 844) (by decide +kernel)⟩
theorem lw_p44 : lw_okq (⟨"TaskCoresModel", "ends", "(I)V"⟩, 45) := ⟨⟨by decide +kernel, by decide +kernel⟩, List.mem_of_getElem? (i := 617) (by decide +kernel), List.mem_of_getElem? (i := 847) (by decide +kernel), List.mem_of_getElem? (i := 848) (by decide +kernel)⟩
theorem lw_p45 : lw_okq (⟨"TaskCoresModel", "free", "(I)V"⟩, 45) := ⟨⟨by decide +kernel, by decide +kernel⟩, List.mem_of_getElem? (i := 617) (by decide +kernel), List.mem_of_getElem? (i := 851) (by decide +kernel), List.mem_of_getElem? (i := 852) (by decide +kernel)⟩
theorem lw_p46 : lw_okq (⟨"TaskCoresModel", "holdsSome", "(I)Z"⟩, 45) := ⟨⟨by decide +kernel, by decide +kernel⟩, List.mem_of_getElem? (i := 617) (by decide +kernel), List.mem_of_getElem? (i := 855) (by decide +kernel), List.mem_of_getElem? (i := 856) (by decide +kernel)⟩
theorem lw_p47 : lw_okq (⟨"TaskCoresModel", "unlock", "(I)V"⟩, 45) := ⟨⟨by decide +kernel, by decide +kernel⟩, List.mem_of_getElem? (i := 617) (by decide +kernel), List.mem_of_getElem? (i := 859) (by decide +kernel), List.mem_of_getElem? (i := 860) (by decide +kernel)⟩
def lw_privs_3 : List (MethodName × Nat) := [(⟨"TaskCoresModel", "no", "(I)Z"⟩, 45), (⟨"TaskCoresModel", "findCeilings", "()V"⟩, 45), (⟨"TaskCoresModel", "microsecond", "()I"⟩, 45), (⟨"TaskCoresModel", "begin", "(I)V"⟩, 45), (⟨"TaskCoresModel", "tell", "(II)V"⟩, 45), (⟨"TaskCoresModel", "ready", "(I)V"⟩, 45), (⟨"TaskCoresModel", "step", "(I)Z"⟩, 45), (⟨"TaskCoresModel", "atHand", "()I"⟩, 45), (⟨"TaskCoresModel", "choose", "(I)I"⟩, 45), (⟨"TaskCoresModel", "runningOf", "(I)I"⟩, 45), (⟨"TaskCoresModel", "height", "(I)I"⟩, 45), (⟨"TaskCoresModel", "nextPart", "(I)I"⟩, 45), (⟨"TaskCoresModel", "ends", "(I)V"⟩, 45), (⟨"TaskCoresModel", "free", "(I)V"⟩, 45), (⟨"TaskCoresModel", "holdsSome", "(I)Z"⟩, 45), (⟨"TaskCoresModel", "unlock", "(I)V"⟩, 45)]
theorem lw_r3 : ∀ q ∈ lw_privs_3, lw_okq q := List.forall_mem_cons.mpr ⟨lw_p32, List.forall_mem_cons.mpr ⟨lw_p33, List.forall_mem_cons.mpr ⟨lw_p34, List.forall_mem_cons.mpr ⟨lw_p35, List.forall_mem_cons.mpr ⟨lw_p36, List.forall_mem_cons.mpr ⟨lw_p37, List.forall_mem_cons.mpr ⟨lw_p38, List.forall_mem_cons.mpr ⟨lw_p39, List.forall_mem_cons.mpr ⟨lw_p40, List.forall_mem_cons.mpr ⟨lw_p41, List.forall_mem_cons.mpr ⟨lw_p42, List.forall_mem_cons.mpr ⟨lw_p43, List.forall_mem_cons.mpr ⟨lw_p44, List.forall_mem_cons.mpr ⟨lw_p45, List.forall_mem_cons.mpr ⟨lw_p46, List.forall_mem_cons.mpr ⟨lw_p47, fun _ h => absurd h List.not_mem_nil⟩⟩⟩⟩⟩⟩⟩⟩⟩⟩⟩⟩⟩⟩⟩⟩
theorem lw_p48 : lw_okq (⟨"TaskCoresModel", "act", "(IIJ)V"⟩, 45) := ⟨⟨by decide +kernel, by decide +kernel⟩, List.mem_of_getElem? (i := 617) (by decide +kernel), List.mem_of_getElem? (i := 863) (by decide +kernel), List.mem_of_getElem? (i := 864) (by decide +kernel)⟩
theorem lw_p49 : lw_okq (⟨"TaskCoresModel", "chain", "(II)V"⟩, 45) := ⟨⟨by decide +kernel, by decide +kernel⟩, List.mem_of_getElem? (i := 617) (by decide +kernel), List.mem_of_getElem? (i := 867) (by decide +kernel), List.mem_of_getElem? (i := 868) (by decide +kernel)⟩
theorem lw_p50 : lw_okq (⟨"TaskCoresModel", "set", "(II)Z"⟩, 45) := ⟨⟨by decide +kernel, by decide +kernel⟩, List.mem_of_getElem? (i := 617) (by decide +kernel), List.mem_of_getElem? (i := 872) (by decide +kernel), List.mem_of_getElem? (i := 873) (by decide +kernel)⟩
theorem lw_p51 : lw_okq (⟨"TaskCoresModel", "pass", "(I)V"⟩, 45) := ⟨⟨by decide +kernel, by decide +kernel⟩, List.mem_of_getElem? (i := 617) (by decide +kernel), List.mem_of_getElem? (i := 877) (by decide +kernel), List.mem_of_getElem? (i := 878) (by decide +kernel)⟩
theorem lw_p52 : lw_okq (⟨"TaskCoresModel", "isSwitch", "(II)Z"⟩, 45) := ⟨⟨by decide +kernel, by decide +kernel⟩, List.mem_of_getElem? (i := 617) (by decide +kernel), List.mem_of_getElem? (i := 915) (by decide +kernel), List.mem_of_getElem? (i := 916) (by decide +kernel)⟩
def lw_privs_4 : List (MethodName × Nat) := [(⟨"TaskCoresModel", "act", "(IIJ)V"⟩, 45), (⟨"TaskCoresModel", "chain", "(II)V"⟩, 45), (⟨"TaskCoresModel", "set", "(II)Z"⟩, 45), (⟨"TaskCoresModel", "pass", "(I)V"⟩, 45), (⟨"TaskCoresModel", "isSwitch", "(II)Z"⟩, 45)]
theorem lw_r4 : ∀ q ∈ lw_privs_4, lw_okq q := List.forall_mem_cons.mpr ⟨lw_p48, List.forall_mem_cons.mpr ⟨lw_p49, List.forall_mem_cons.mpr ⟨lw_p50, List.forall_mem_cons.mpr ⟨lw_p51, List.forall_mem_cons.mpr ⟨lw_p52, fun _ h => absurd h List.not_mem_nil⟩⟩⟩⟩⟩
def lw_privs : List (MethodName × Nat) := lw_privs_1 ++ (lw_privs_2 ++ (lw_privs_3 ++ (lw_privs_4)))
def lw_tbl : List Cond := k2_sels lw_privs ++ tables_1
theorem lw_privs_ok : ∀ q ∈ lw_privs, lw_okq q := by
  show ∀ q ∈ lw_privs_1 ++ (lw_privs_2 ++ (lw_privs_3 ++ (lw_privs_4))), lw_okq q
  exact List.forall_mem_append.mpr ⟨lw_r1, List.forall_mem_append.mpr ⟨lw_r2, List.forall_mem_append.mpr ⟨lw_r3, lw_r4⟩⟩⟩
end
section
abbrev mR_T : String := "TaskCores"
def mF_T : u_T := fun k => match k with
  | 0 => ("TaskCores", "tasks", "[LTaskCores$Task;", true)
  | 1 => ("TaskCores", "cores", "[LTaskCores$Core;", true)
  | 2 => ("TaskCores", "resources", "[LTaskCores$Resource;", true)
  | 3 => ("TaskCores", "locks", "[LTaskCores$Lock;", true)
  | 4 => ("TaskCores", "interrupts", "LTaskCores$Interrupts;", true)
  | 5 => ("TaskCores", "codes", "LTaskCores$Log;", true)
  | 6 => ("TaskCores", "switches", "LTaskCores$Log;", true)
  | 7 => ("TaskCores", "nextTelling", "LTaskCores$Telling;", false)
  | 8 => ("TaskCores", "tellingCount", "I", false)
  | 9 => ("TaskCores", "taskCount", "I", false)
  | 10 => ("TaskCores", "partCount", "I", false)
  | 11 => ("TaskCores", "lastTurn", "I", false)
  | _ => ("TaskCores", "time", "I", false)
def mt_T : Nat → FieldType := fun k => match k with
  | 0 => .array (.object "TaskCores$Task")
  | 1 => .array (.object "TaskCores$Core")
  | 2 => .array (.object "TaskCores$Resource")
  | 3 => .array (.object "TaskCores$Lock")
  | 4 => .object "TaskCores$Interrupts"
  | 5 => .object "TaskCores$Log"
  | 6 => .object "TaskCores$Log"
  | 7 => .object "TaskCores$Telling"
  | 8 => .int
  | 9 => .int
  | 10 => .int
  | 11 => .int
  | _ => .int
abbrev mR_C : String := "TaskCores$Core"
def mF_C : u_T := fun k => match k with
  | 0 => ("TaskCores$Core", "number", "I", true)
  | 1 => ("TaskCores$Core", "seen", "LTaskCores$Log;", true)
  | 2 => ("TaskCores$Core", "first", "LTaskCores$Task;", false)
  | 3 => ("TaskCores$Core", "last", "LTaskCores$Task;", false)
  | 4 => ("TaskCores$Core", "runner", "LTaskCores$Task;", false)
  | 5 => ("TaskCores$Core", "who", "I", false)
  | _ => ("TaskCores$Core", "scheduling", "Z", false)
def mt_C : Nat → FieldType := fun k => match k with
  | 0 => .int
  | 1 => .object "TaskCores$Log"
  | 2 => .object "TaskCores$Task"
  | 3 => .object "TaskCores$Task"
  | 4 => .object "TaskCores$Task"
  | 5 => .int
  | _ => .boolean
abbrev mR_I : String := "TaskCores$Interrupt"
def mF_I : u_T := fun k => match k with
  | 0 => ("TaskCores$Interrupt", "level", "I", true)
  | 1 => ("TaskCores$Interrupt", "at", "I", true)
  | 2 => ("TaskCores$Interrupt", "left", "I", false)
  | _ => ("TaskCores$Interrupt", "next", "LTaskCores$Interrupt;", false)
def mt_I : Nat → FieldType := fun k => match k with
  | 0 => .int
  | 1 => .int
  | 2 => .int
  | _ => .object "TaskCores$Interrupt"
abbrev mR_U : String := "TaskCores$Interrupts"
def mF_U : u_T := fun k => match k with
  | 0 => ("TaskCores$Interrupts", "first", "LTaskCores$Interrupt;", false)
  | 1 => ("TaskCores$Interrupts", "told", "I", false)
  | 2 => ("TaskCores$Interrupts", "offBy", "LTaskCores$Task;", false)
  | _ => ("TaskCores$Interrupts", "budgetEnd", "I", false)
def mt_U : Nat → FieldType := fun k => match k with
  | 0 => .object "TaskCores$Interrupt"
  | 1 => .int
  | 2 => .object "TaskCores$Task"
  | _ => .int
abbrev mR_L : String := "TaskCores$Lock"
def mF_L : u_T := fun k => match k with
  | 0 => ("TaskCores$Lock", "owner", "LTaskCores$Task;", false)
  | _ => ("TaskCores$Lock", "firstInQueue", "LTaskCores$Task;", false)
def mt_L : Nat → FieldType := fun k => match k with
  | 0 => .object "TaskCores$Task"
  | _ => .object "TaskCores$Task"
abbrev mR_G : String := "TaskCores$Log"
def mF_G : u_T := fun k => match k with
  | 0 => ("TaskCores$Log", "blocks", "[[J", true)
  | 1 => ("TaskCores$Log", "capacity", "I", true)
  | _ => ("TaskCores$Log", "count", "I", false)
def mt_G : Nat → FieldType := fun k => match k with
  | 0 => .array (.array .long)
  | 1 => .int
  | _ => .int
abbrev mR_P : String := "TaskCores$Part"
def mF_P : u_T := fun k => match k with
  | 0 => ("TaskCores$Part", "kind", "I", true)
  | 1 => ("TaskCores$Part", "value", "I", true)
  | _ => ("TaskCores$Part", "next", "LTaskCores$Part;", false)
def mt_P : Nat → FieldType := fun k => match k with
  | 0 => .int
  | 1 => .int
  | _ => .object "TaskCores$Part"
abbrev mR_R : String := "TaskCores$Resource"
def mF_R : u_T := fun k => match k with
  | 0 => ("TaskCores$Resource", "ceiling", "I", false)
  | 1 => ("TaskCores$Resource", "owner", "LTaskCores$Task;", false)
  | _ => ("TaskCores$Resource", "gotBefore", "LTaskCores$Resource;", false)
def mt_R : Nat → FieldType := fun k => match k with
  | 0 => .int
  | 1 => .object "TaskCores$Task"
  | _ => .object "TaskCores$Resource"
abbrev mR_K : String := "TaskCores$Task"
def mF_K : u_T := fun k => match k with
  | 0 => ("TaskCores$Task", "number", "I", true)
  | 1 => ("TaskCores$Task", "rank", "I", true)
  | 2 => ("TaskCores$Task", "core", "LTaskCores$Core;", true)
  | 3 => ("TaskCores$Task", "bound", "I", true)
  | 4 => ("TaskCores$Task", "extended", "Z", true)
  | 5 => ("TaskCores$Task", "full", "Z", false)
  | 6 => ("TaskCores$Task", "start", "LTaskCores$Part;", true)
  | 7 => ("TaskCores$Task", "part", "LTaskCores$Part;", false)
  | 8 => ("TaskCores$Task", "spent", "I", false)
  | 9 => ("TaskCores$Task", "state", "I", false)
  | 10 => ("TaskCores$Task", "turn", "I", false)
  | 11 => ("TaskCores$Task", "wanted", "I", false)
  | 12 => ("TaskCores$Task", "events", "I", false)
  | 13 => ("TaskCores$Task", "awaited", "I", false)
  | 14 => ("TaskCores$Task", "used", "I", false)
  | 15 => ("TaskCores$Task", "lastGot", "LTaskCores$Resource;", false)
  | 16 => ("TaskCores$Task", "lockCount", "I", false)
  | 17 => ("TaskCores$Task", "nextOnCore", "LTaskCores$Task;", false)
  | _ => ("TaskCores$Task", "nextInQueue", "LTaskCores$Task;", false)
def mt_K : Nat → FieldType := fun k => match k with
  | 0 => .int
  | 1 => .int
  | 2 => .object "TaskCores$Core"
  | 3 => .int
  | 4 => .boolean
  | 5 => .boolean
  | 6 => .object "TaskCores$Part"
  | 7 => .object "TaskCores$Part"
  | 8 => .int
  | 9 => .int
  | 10 => .int
  | 11 => .int
  | 12 => .int
  | 13 => .int
  | 14 => .int
  | 15 => .object "TaskCores$Resource"
  | 16 => .int
  | 17 => .object "TaskCores$Task"
  | _ => .object "TaskCores$Task"
abbrev mR_E : String := "TaskCores$Telling"
def mF_E : u_T := fun k => match k with
  | 0 => ("TaskCores$Telling", "task", "LTaskCores$Task;", true)
  | 1 => ("TaskCores$Telling", "time", "I", true)
  | _ => ("TaskCores$Telling", "next", "LTaskCores$Telling;", false)
def mt_E : Nat → FieldType := fun k => match k with
  | 0 => .object "TaskCores$Task"
  | 1 => .int
  | _ => .object "TaskCores$Telling"
abbrev mR_M : String := "TaskCoresModel"
def mF_M : u_T := fun k => match k with
  | 0 => ("TaskCoresModel", "cores", "I", true)
  | 1 => ("TaskCoresModel", "tasks", "I", false)
  | 2 => ("TaskCoresModel", "rank", "[I", true)
  | 3 => ("TaskCoresModel", "core", "[I", true)
  | 4 => ("TaskCoresModel", "bound", "[I", true)
  | 5 => ("TaskCoresModel", "extended", "[Z", true)
  | 6 => ("TaskCoresModel", "full", "[Z", true)
  | 7 => ("TaskCoresModel", "parts", "I", false)
  | 8 => ("TaskCoresModel", "partOf", "[I", true)
  | 9 => ("TaskCoresModel", "partKind", "[I", true)
  | 10 => ("TaskCoresModel", "partV", "[J", true)
  | 11 => ("TaskCoresModel", "state", "[I", true)
  | 12 => ("TaskCoresModel", "turn", "[J", true)
  | 13 => ("TaskCoresModel", "wanted", "[I", true)
  | 14 => ("TaskCoresModel", "next", "[I", true)
  | 15 => ("TaskCoresModel", "left", "[J", true)
  | 16 => ("TaskCoresModel", "starts", "[Z", true)
  | 17 => ("TaskCoresModel", "events", "[I", true)
  | 18 => ("TaskCoresModel", "awaited", "[I", true)
  | 19 => ("TaskCoresModel", "yields", "[Z", true)
  | 20 => ("TaskCoresModel", "used", "[J", true)
  | 21 => ("TaskCoresModel", "turns", "J", false)
  | 22 => ("TaskCoresModel", "holder", "[I", true)
  | 23 => ("TaskCoresModel", "gotAt", "[J", true)
  | 24 => ("TaskCoresModel", "ceiling", "[I", true)
  | 25 => ("TaskCoresModel", "owner", "[I", true)
  | 26 => ("TaskCoresModel", "spins", "[I", true)
  | 27 => ("TaskCoresModel", "spinsSince", "[J", true)
  | 28 => ("TaskCoresModel", "orders", "J", false)
  | 29 => ("TaskCoresModel", "offBy", "I", false)
  | 30 => ("TaskCoresModel", "offEnd", "J", false)
  | 31 => ("TaskCoresModel", "offTold", "Z", false)
  | 32 => ("TaskCoresModel", "alarms", "I", false)
  | 33 => ("TaskCoresModel", "alarmTask", "[I", true)
  | 34 => ("TaskCoresModel", "alarmAt", "[J", true)
  | 35 => ("TaskCoresModel", "interrupts", "I", false)
  | 36 => ("TaskCoresModel", "level", "[I", true)
  | 37 => ("TaskCoresModel", "comes", "[J", true)
  | 38 => ("TaskCoresModel", "rest", "[J", true)
  | 39 => ("TaskCoresModel", "codes", "I", false)
  | 40 => ("TaskCoresModel", "codeKind", "[I", true)
  | 41 => ("TaskCoresModel", "codeTask", "[I", true)
  | 42 => ("TaskCoresModel", "codeAt", "[J", true)
  | 43 => ("TaskCoresModel", "now", "J", false)
  | _ => ("TaskCoresModel", "who", "[S", true)
def mt_M : Nat → FieldType := fun k => match k with
  | 0 => .int
  | 1 => .int
  | 2 => .array .int
  | 3 => .array .int
  | 4 => .array .int
  | 5 => .array .boolean
  | 6 => .array .boolean
  | 7 => .int
  | 8 => .array .int
  | 9 => .array .int
  | 10 => .array .long
  | 11 => .array .int
  | 12 => .array .long
  | 13 => .array .int
  | 14 => .array .int
  | 15 => .array .long
  | 16 => .array .boolean
  | 17 => .array .int
  | 18 => .array .int
  | 19 => .array .boolean
  | 20 => .array .long
  | 21 => .long
  | 22 => .array .int
  | 23 => .array .long
  | 24 => .array .int
  | 25 => .array .int
  | 26 => .array .int
  | 27 => .array .long
  | 28 => .long
  | 29 => .int
  | 30 => .long
  | 31 => .boolean
  | 32 => .int
  | 33 => .array .int
  | 34 => .array .long
  | 35 => .int
  | 36 => .array .int
  | 37 => .array .long
  | 38 => .array .long
  | 39 => .int
  | 40 => .array .int
  | 41 => .array .int
  | 42 => .array .long
  | 43 => .long
  | _ => .array .short
abbrev mR_W : String := "TaskCoresLaw"
def md_cl : List vw_C := [(mR_T, mF_T, 13), (mR_C, mF_C, 7), (mR_I, mF_I, 4), (mR_U, mF_U, 4), (mR_L, mF_L, 2), (mR_G, mF_G, 3), (mR_P, mF_P, 3), (mR_R, mF_R, 3), (mR_K, mF_K, 19), (mR_E, mF_E, 3), (mR_M, mF_M, 45)]
def md_ty : Nat → Nat → FieldType := fun c => match c with
  | 0 => mt_T
  | 1 => mt_C
  | 2 => mt_I
  | 3 => mt_U
  | 4 => mt_L
  | 5 => mt_G
  | 6 => mt_P
  | 7 => mt_R
  | 8 => mt_K
  | 9 => mt_E
  | _ => mt_M
def md_at : List FieldType := [.int, .long, .boolean, .short, .object "TaskCores$Task", .object "TaskCores$Core", .object "TaskCores$Resource", .object "TaskCores$Lock", .array .long]
def md_Ts : List Cond := lw_tbl.filter goodWord
theorem mw_1 {w : Cond} (i : Nat) (h : tables_1_1[i]? = some w) (g : goodWord w = true) : w ∈ md_Ts := List.mem_filter.mpr ⟨List.mem_append_right _ (List.mem_append_left _ (List.mem_of_getElem? h)), g⟩
theorem mw_2 {w : Cond} (i : Nat) (h : tables_1_2[i]? = some w) (g : goodWord w = true) : w ∈ md_Ts := List.mem_filter.mpr ⟨List.mem_append_right _ (List.mem_append_right _ (List.mem_append_left _ (List.mem_of_getElem? h))), g⟩
theorem mw_3 {w : Cond} (i : Nat) (h : tables_1_3[i]? = some w) (g : goodWord w = true) : w ∈ md_Ts := List.mem_filter.mpr ⟨List.mem_append_right _ (List.mem_append_right _ (List.mem_append_right _ (List.mem_append_left _ (List.mem_of_getElem? h)))), g⟩
theorem mw_4 {w : Cond} (i : Nat) (h : tables_1_4[i]? = some w) (g : goodWord w = true) : w ∈ md_Ts := List.mem_filter.mpr ⟨List.mem_append_right _ (List.mem_append_right _ (List.mem_append_right _ (List.mem_append_right _ (List.mem_of_getElem? h)))), g⟩
theorem mw_p {w : Cond} (i : Nat) (h : (k2_sels lw_privs)[i]? = some w) (g : goodWord w = true) : w ∈ md_Ts := List.mem_filter.mpr ⟨List.mem_append_left _ (List.mem_of_getElem? h), g⟩
theorem tw_0 : (Jvm.Cond.initialized "TaskCoresLaw") ∈ md_Ts := mw_1 0 rfl rfl
theorem tw_1 : (Jvm.Cond.initialized "TaskCores") ∈ md_Ts := mw_1 1 rfl rfl
theorem tw_2 : (Jvm.Cond.initialized "TaskCores$Interrupts") ∈ md_Ts := mw_1 2 rfl rfl
theorem tw_3 : (Jvm.Cond.initialized "TaskCores$Log") ∈ md_Ts := mw_1 3 rfl rfl
theorem tw_4 : (Jvm.Cond.initialized "java/lang/Math") ∈ md_Ts := mw_1 4 rfl rfl
theorem tw_5 : (Jvm.Cond.initialized "TaskCores$Core") ∈ md_Ts := mw_1 5 rfl rfl
theorem tw_6 : (Jvm.Cond.initialized "TaskCores$Resource") ∈ md_Ts := mw_1 6 rfl rfl
theorem tw_7 : (Jvm.Cond.initialized "TaskCores$Lock") ∈ md_Ts := mw_1 7 rfl rfl
theorem tw_8 : (Jvm.Cond.initialized "TaskCoresModel") ∈ md_Ts := mw_1 8 rfl rfl
theorem tw_9 : (Jvm.Cond.initialized "TaskCores$Task") ∈ md_Ts := mw_1 9 rfl rfl
theorem tw_10 : (Jvm.Cond.initialized "TaskCores$Part") ∈ md_Ts := mw_1 10 rfl rfl
theorem tw_11 : (Jvm.Cond.initialized "TaskCores$Telling") ∈ md_Ts := mw_1 11 rfl rfl
theorem tw_12 : (Jvm.Cond.initialized "TaskCores$Interrupt") ∈ md_Ts := mw_1 12 rfl rfl
theorem tw_13 : (Jvm.Cond.classLink "TaskCoresLaw" (7 : Nat) "TaskCores") ∈ md_Ts := mw_1 13 rfl rfl
theorem tw_14 : (Jvm.Cond.instantiable "TaskCores" (13 : Nat)) ∈ md_Ts := mw_1 14 rfl rfl
theorem tw_15 : (Jvm.Cond.methodLink "TaskCoresLaw" (15 : Nat) ({ cls := "TaskCores", name := "<init>", desc := "(I)V" } : Jvm.MethodName)) ∈ md_Ts := mw_1 15 rfl rfl
theorem tw_16 : (Jvm.Cond.instanceMethod ({ cls := "TaskCores", name := "<init>", desc := "(I)V" } : Jvm.MethodName)) ∈ md_Ts := mw_1 16 rfl rfl
theorem tw_17 : (Jvm.Cond.code ({ cls := "TaskCores", name := "<init>", desc := "(I)V" } : Jvm.MethodName) prog_1_method_1_code (4 : Nat) (Option.none : Option Jvm.ClassFile.FieldType)) ∈ md_Ts := mw_1 17 rfl rfl
theorem tw_18 : (Jvm.Cond.methodLink "TaskCores" (1 : Nat) ({ cls := "java/lang/Object", name := "<init>", desc := "()V" } : Jvm.MethodName)) ∈ md_Ts := mw_1 18 rfl rfl
theorem tw_19 : (Jvm.Cond.instanceMethod ({ cls := "java/lang/Object", name := "<init>", desc := "()V" } : Jvm.MethodName)) ∈ md_Ts := mw_1 19 rfl rfl
theorem tw_20 : (Jvm.Cond.code ({ cls := "java/lang/Object", name := "<init>", desc := "()V" } : Jvm.MethodName) object_method_1_code (1 : Nat) (Option.none : Option Jvm.ClassFile.FieldType)) ∈ md_Ts := mw_1 20 rfl rfl
theorem tw_21 : (Jvm.Cond.classLink "TaskCores" (9 : Nat) "TaskCores$Task") ∈ md_Ts := mw_1 21 rfl rfl
theorem tw_23 : (Jvm.Cond.classLink "TaskCores" (15 : Nat) "TaskCores$Resource") ∈ md_Ts := mw_1 23 rfl rfl
theorem tw_25 : (Jvm.Cond.classLink "TaskCores" (21 : Nat) "TaskCores$Lock") ∈ md_Ts := mw_1 25 rfl rfl
theorem tw_27 : (Jvm.Cond.classLink "TaskCores" (27 : Nat) "TaskCores$Interrupts") ∈ md_Ts := mw_1 27 rfl rfl
theorem tw_28 : (Jvm.Cond.instantiable "TaskCores$Interrupts" (4 : Nat)) ∈ md_Ts := mw_1 28 rfl rfl
theorem tw_30 : (Jvm.Cond.instanceMethod ({ cls := "TaskCores$Interrupts", name := "<init>", desc := "()V" } : Jvm.MethodName)) ∈ md_Ts := mw_1 30 rfl rfl
theorem tw_31 : (Jvm.Cond.code ({ cls := "TaskCores$Interrupts", name := "<init>", desc := "()V" } : Jvm.MethodName) prog_4_method_1_code (1 : Nat) (Option.none : Option Jvm.ClassFile.FieldType)) ∈ md_Ts := mw_1 31 rfl rfl
theorem tw_32 : (Jvm.Cond.methodLink "TaskCores$Interrupts" (3 : Nat) ({ cls := "java/lang/Object", name := "<init>", desc := "()V" } : Jvm.MethodName)) ∈ md_Ts := mw_1 32 rfl rfl
theorem tw_33 : (Jvm.Cond.fieldLink "TaskCores$Interrupts" (15 : Nat) "TaskCores$Interrupts" "first" "LTaskCores$Interrupt;") ∈ md_Ts := mw_1 33 rfl rfl
theorem tw_34 : (Jvm.Cond.fieldLink "TaskCores$Interrupts" (9 : Nat) "TaskCores$Interrupts" "told" "I") ∈ md_Ts := mw_1 34 rfl rfl
theorem tw_35 : (Jvm.Cond.fieldLink "TaskCores" (132 : Nat) "TaskCores$Interrupts" "told" "I") ∈ md_Ts := mw_1 35 rfl rfl
theorem tw_36 : (Jvm.Cond.fieldLink "TaskCores$Interrupts" (30 : Nat) "TaskCores$Interrupts" "offBy" "LTaskCores$Task;") ∈ md_Ts := mw_1 36 rfl rfl
theorem tw_37 : (Jvm.Cond.fieldLink "TaskCores" (342 : Nat) "TaskCores$Interrupts" "offBy" "LTaskCores$Task;") ∈ md_Ts := mw_1 37 rfl rfl
theorem tw_38 : (Jvm.Cond.fieldLink "TaskCores$Interrupts" (34 : Nat) "TaskCores$Interrupts" "budgetEnd" "I") ∈ md_Ts := mw_1 38 rfl rfl
theorem tw_39 : (Jvm.Cond.fieldLink "TaskCores" (345 : Nat) "TaskCores$Interrupts" "budgetEnd" "I") ∈ md_Ts := mw_1 39 rfl rfl
theorem tw_49 : (Jvm.Cond.classLink "TaskCores" (34 : Nat) "TaskCores$Log") ∈ md_Ts := mw_1 49 rfl rfl
theorem tw_50 : (Jvm.Cond.instantiable "TaskCores$Log" (3 : Nat)) ∈ md_Ts := mw_1 50 rfl rfl
theorem tw_51 : (Jvm.Cond.methodLink "TaskCores" (36 : Nat) ({ cls := "TaskCores$Log", name := "<init>", desc := "(I)V" } : Jvm.MethodName)) ∈ md_Ts := mw_1 51 rfl rfl
theorem tw_52 : (Jvm.Cond.instanceMethod ({ cls := "TaskCores$Log", name := "<init>", desc := "(I)V" } : Jvm.MethodName)) ∈ md_Ts := mw_1 52 rfl rfl
theorem tw_53 : (Jvm.Cond.code ({ cls := "TaskCores$Log", name := "<init>", desc := "(I)V" } : Jvm.MethodName) prog_6_method_1_code (2 : Nat) (Option.none : Option Jvm.ClassFile.FieldType)) ∈ md_Ts := mw_1 53 rfl rfl
theorem tw_54 : (Jvm.Cond.methodLink "TaskCores$Log" (3 : Nat) ({ cls := "java/lang/Object", name := "<init>", desc := "()V" } : Jvm.MethodName)) ∈ md_Ts := mw_1 54 rfl rfl
theorem tw_55 : (Jvm.Cond.methodLink "TaskCores$Log" (9 : Nat) ({ cls := "java/lang/Math", name := "max", desc := "(II)I" } : Jvm.MethodName)) ∈ md_Ts := mw_1 55 rfl rfl
theorem tw_56 : (Jvm.Cond.static ({ cls := "java/lang/Math", name := "max", desc := "(II)I" } : Jvm.MethodName)) ∈ md_Ts := mw_1 56 rfl rfl
theorem tw_57 : (Jvm.Cond.code ({ cls := "java/lang/Math", name := "max", desc := "(II)I" } : Jvm.MethodName) prog_13_method_65_code (2 : Nat) (Option.some Jvm.ClassFile.FieldType.int)) ∈ md_Ts := mw_1 57 rfl rfl
theorem tw_58 : (Jvm.Cond.classLink "TaskCores$Log" (21 : Nat) "[J") ∈ md_Ts := mw_1 58 rfl rfl
theorem tw_60 : (Jvm.Cond.fieldLink "TaskCores$Log" (23 : Nat) "TaskCores$Log" "blocks" "[[J") ∈ md_Ts := mw_1 60 rfl rfl
theorem tw_61 : (Jvm.Cond.fieldLink "TaskCores$Log" (15 : Nat) "TaskCores$Log" "capacity" "I") ∈ md_Ts := mw_1 61 rfl rfl
theorem tw_62 : (Jvm.Cond.fieldLink "TaskCores$Log" (27 : Nat) "TaskCores$Log" "count" "I") ∈ md_Ts := mw_1 62 rfl rfl
theorem tw_63 : (Jvm.Cond.fieldLink "TaskCores$Core" (44 : Nat) "TaskCores$Log" "count" "I") ∈ md_Ts := mw_1 63 rfl rfl
theorem tw_71 : (Jvm.Cond.classLink "TaskCores" (43 : Nat) "TaskCores$Core") ∈ md_Ts := mw_1 71 rfl rfl
theorem tw_73 : (Jvm.Cond.instantiable "TaskCores$Core" (7 : Nat)) ∈ md_Ts := mw_1 73 rfl rfl
theorem tw_74 : (Jvm.Cond.methodLink "TaskCores" (49 : Nat) ({ cls := "TaskCores$Core", name := "<init>", desc := "(I)V" } : Jvm.MethodName)) ∈ md_Ts := mw_1 74 rfl rfl
theorem tw_75 : (Jvm.Cond.instanceMethod ({ cls := "TaskCores$Core", name := "<init>", desc := "(I)V" } : Jvm.MethodName)) ∈ md_Ts := mw_1 75 rfl rfl
theorem tw_76 : (Jvm.Cond.code ({ cls := "TaskCores$Core", name := "<init>", desc := "(I)V" } : Jvm.MethodName) prog_2_method_1_code (2 : Nat) (Option.none : Option Jvm.ClassFile.FieldType)) ∈ md_Ts := mw_1 76 rfl rfl
theorem tw_77 : (Jvm.Cond.methodLink "TaskCores$Core" (3 : Nat) ({ cls := "java/lang/Object", name := "<init>", desc := "()V" } : Jvm.MethodName)) ∈ md_Ts := mw_1 77 rfl rfl
theorem tw_78 : (Jvm.Cond.classLink "TaskCores$Core" (9 : Nat) "TaskCores$Log") ∈ md_Ts := mw_1 78 rfl rfl
theorem tw_79 : (Jvm.Cond.constant "TaskCores$Core" (11 : Nat) (50000 : Int32)) ∈ md_Ts := mw_1 79 rfl rfl
theorem tw_80 : (Jvm.Cond.methodLink "TaskCores$Core" (12 : Nat) ({ cls := "TaskCores$Log", name := "<init>", desc := "(I)V" } : Jvm.MethodName)) ∈ md_Ts := mw_1 80 rfl rfl
theorem tw_81 : (Jvm.Cond.fieldLink "TaskCores$Core" (21 : Nat) "TaskCores$Core" "number" "I") ∈ md_Ts := mw_1 81 rfl rfl
theorem tw_82 : (Jvm.Cond.fieldLink "TaskCores" (240 : Nat) "TaskCores$Core" "number" "I") ∈ md_Ts := mw_1 82 rfl rfl
theorem tw_83 : (Jvm.Cond.fieldLink "TaskCores$Core" (15 : Nat) "TaskCores$Core" "seen" "LTaskCores$Log;") ∈ md_Ts := mw_1 83 rfl rfl
theorem tw_84 : (Jvm.Cond.fieldLink "TaskCores$Core" (29 : Nat) "TaskCores$Core" "first" "LTaskCores$Task;") ∈ md_Ts := mw_1 84 rfl rfl
theorem tw_85 : (Jvm.Cond.fieldLink "TaskCores" (265 : Nat) "TaskCores$Core" "first" "LTaskCores$Task;") ∈ md_Ts := mw_1 85 rfl rfl
theorem tw_86 : (Jvm.Cond.fieldLink "TaskCores$Core" (25 : Nat) "TaskCores$Core" "last" "LTaskCores$Task;") ∈ md_Ts := mw_1 86 rfl rfl
theorem tw_87 : (Jvm.Cond.fieldLink "TaskCores" (245 : Nat) "TaskCores$Core" "runner" "LTaskCores$Task;") ∈ md_Ts := mw_1 87 rfl rfl
theorem tw_88 : (Jvm.Cond.fieldLink "TaskCores$Core" (37 : Nat) "TaskCores$Core" "who" "I") ∈ md_Ts := mw_1 88 rfl rfl
theorem tw_89 : (Jvm.Cond.fieldLink "TaskCores" (393 : Nat) "TaskCores$Core" "who" "I") ∈ md_Ts := mw_1 89 rfl rfl
theorem tw_90 : (Jvm.Cond.fieldLink "TaskCores" (262 : Nat) "TaskCores$Core" "scheduling" "Z") ∈ md_Ts := mw_1 90 rfl rfl
theorem tw_106 : (Jvm.Cond.instantiable "TaskCores$Resource" (3 : Nat)) ∈ md_Ts := mw_1 106 rfl rfl
theorem tw_108 : (Jvm.Cond.instanceMethod ({ cls := "TaskCores$Resource", name := "<init>", desc := "()V" } : Jvm.MethodName)) ∈ md_Ts := mw_1 108 rfl rfl
theorem tw_109 : (Jvm.Cond.code ({ cls := "TaskCores$Resource", name := "<init>", desc := "()V" } : Jvm.MethodName) prog_8_method_1_code (1 : Nat) (Option.none : Option Jvm.ClassFile.FieldType)) ∈ md_Ts := mw_1 109 rfl rfl
theorem tw_110 : (Jvm.Cond.methodLink "TaskCores$Resource" (1 : Nat) ({ cls := "java/lang/Object", name := "<init>", desc := "()V" } : Jvm.MethodName)) ∈ md_Ts := mw_1 110 rfl rfl
theorem tw_111 : (Jvm.Cond.fieldLink "TaskCores" (89 : Nat) "TaskCores$Resource" "ceiling" "I") ∈ md_Ts := mw_1 111 rfl rfl
theorem tw_112 : (Jvm.Cond.fieldLink "TaskCores$Task" (51 : Nat) "TaskCores$Resource" "ceiling" "I") ∈ md_Ts := mw_1 112 rfl rfl
theorem tw_113 : (Jvm.Cond.fieldLink "TaskCores" (208 : Nat) "TaskCores$Resource" "owner" "LTaskCores$Task;") ∈ md_Ts := mw_1 113 rfl rfl
theorem tw_114 : (Jvm.Cond.fieldLink "TaskCores$Task" (62 : Nat) "TaskCores$Resource" "gotBefore" "LTaskCores$Resource;") ∈ md_Ts := mw_1 114 rfl rfl
theorem tw_115 : (Jvm.Cond.fieldLink "TaskCores" (336 : Nat) "TaskCores$Resource" "gotBefore" "LTaskCores$Resource;") ∈ md_Ts := mw_1 115 rfl rfl
theorem tw_123 : (Jvm.Cond.instantiable "TaskCores$Lock" (2 : Nat)) ∈ md_Ts := mw_1 123 rfl rfl
theorem tw_125 : (Jvm.Cond.instanceMethod ({ cls := "TaskCores$Lock", name := "<init>", desc := "()V" } : Jvm.MethodName)) ∈ md_Ts := mw_1 125 rfl rfl
theorem tw_126 : (Jvm.Cond.code ({ cls := "TaskCores$Lock", name := "<init>", desc := "()V" } : Jvm.MethodName) prog_5_method_1_code (1 : Nat) (Option.none : Option Jvm.ClassFile.FieldType)) ∈ md_Ts := mw_1 126 rfl rfl
theorem tw_127 : (Jvm.Cond.methodLink "TaskCores$Lock" (1 : Nat) ({ cls := "java/lang/Object", name := "<init>", desc := "()V" } : Jvm.MethodName)) ∈ md_Ts := mw_1 127 rfl rfl
theorem tw_128 : (Jvm.Cond.fieldLink "TaskCores$Lock" (22 : Nat) "TaskCores$Lock" "owner" "LTaskCores$Task;") ∈ md_Ts := mw_1 128 rfl rfl
theorem tw_129 : (Jvm.Cond.fieldLink "TaskCores" (193 : Nat) "TaskCores$Lock" "owner" "LTaskCores$Task;") ∈ md_Ts := mw_1 129 rfl rfl
theorem tw_130 : (Jvm.Cond.fieldLink "TaskCores$Lock" (7 : Nat) "TaskCores$Lock" "firstInQueue" "LTaskCores$Task;") ∈ md_Ts := mw_1 130 rfl rfl
theorem tw_136 : (Jvm.Cond.constant "TaskCores" (52 : Nat) (50000 : Int32)) ∈ md_Ts := mw_1 136 rfl rfl
theorem tw_137 : (Jvm.Cond.fieldLink "TaskCores" (11 : Nat) "TaskCores" "tasks" "[LTaskCores$Task;") ∈ md_Ts := mw_1 137 rfl rfl
theorem tw_138 : (Jvm.Cond.fieldLink "TaskCores" (45 : Nat) "TaskCores" "cores" "[LTaskCores$Core;") ∈ md_Ts := mw_1 138 rfl rfl
theorem tw_139 : (Jvm.Cond.fieldLink "TaskCores" (17 : Nat) "TaskCores" "resources" "[LTaskCores$Resource;") ∈ md_Ts := mw_1 139 rfl rfl
theorem tw_140 : (Jvm.Cond.fieldLink "TaskCores" (23 : Nat) "TaskCores" "locks" "[LTaskCores$Lock;") ∈ md_Ts := mw_1 140 rfl rfl
theorem tw_141 : (Jvm.Cond.fieldLink "TaskCores" (30 : Nat) "TaskCores" "interrupts" "LTaskCores$Interrupts;") ∈ md_Ts := mw_1 141 rfl rfl
theorem tw_142 : (Jvm.Cond.fieldLink "TaskCores" (39 : Nat) "TaskCores" "codes" "LTaskCores$Log;") ∈ md_Ts := mw_1 142 rfl rfl
theorem tw_143 : (Jvm.Cond.fieldLink "TaskCores" (53 : Nat) "TaskCores" "switches" "LTaskCores$Log;") ∈ md_Ts := mw_1 143 rfl rfl
theorem tw_144 : (Jvm.Cond.fieldLink "TaskCores" (220 : Nat) "TaskCores" "nextTelling" "LTaskCores$Telling;") ∈ md_Ts := mw_1 144 rfl rfl
theorem tw_145 : (Jvm.Cond.fieldLink "TaskCores" (118 : Nat) "TaskCores" "tellingCount" "I") ∈ md_Ts := mw_1 145 rfl rfl
theorem tw_146 : (Jvm.Cond.fieldLink "TaskCores" (64 : Nat) "TaskCores" "taskCount" "I") ∈ md_Ts := mw_1 146 rfl rfl
theorem tw_147 : (Jvm.Cond.fieldLink "TaskCores" (82 : Nat) "TaskCores" "partCount" "I") ∈ md_Ts := mw_1 147 rfl rfl
theorem tw_148 : (Jvm.Cond.fieldLink "TaskCores" (366 : Nat) "TaskCores" "lastTurn" "I") ∈ md_Ts := mw_1 148 rfl rfl
theorem tw_149 : (Jvm.Cond.fieldLink "TaskCores" (60 : Nat) "TaskCores" "time" "I") ∈ md_Ts := mw_1 149 rfl rfl
theorem tw_177 : (Jvm.Cond.methodLink "TaskCoresLaw" (21 : Nat) ({ cls := "TaskCores", name := "task", desc := "(IIIZ)I" } : Jvm.MethodName)) ∈ md_Ts := mw_1 177 rfl rfl
theorem tw_178 : (Jvm.Cond.instanceMethod ({ cls := "TaskCores", name := "task", desc := "(IIIZ)I" } : Jvm.MethodName)) ∈ md_Ts := mw_1 178 rfl rfl
theorem tw_179 : (Jvm.Cond.selects "TaskCores" ({ cls := "TaskCores", name := "task", desc := "(IIIZ)I" } : Jvm.MethodName) ({ cls := "TaskCores", name := "task", desc := "(IIIZ)I" } : Jvm.MethodName)) ∈ md_Ts := mw_1 179 rfl rfl
theorem tw_180 : (Jvm.Cond.code ({ cls := "TaskCores", name := "task", desc := "(IIIZ)I" } : Jvm.MethodName) prog_1_method_2_code (8 : Nat) (Option.some Jvm.ClassFile.FieldType.int)) ∈ md_Ts := mw_1 180 rfl rfl
theorem tw_181 : (Jvm.Cond.methodLink "TaskCores" (56 : Nat) ({ cls := "TaskCores", name := "coreOf", desc := "(I)LTaskCores$Core;" } : Jvm.MethodName)) ∈ md_Ts := mw_1 181 rfl rfl
theorem tw_183 : (Jvm.Cond.instanceMethod ({ cls := "TaskCores", name := "coreOf", desc := "(I)LTaskCores$Core;" } : Jvm.MethodName)) ∈ md_Ts := mw_1 183 rfl rfl
theorem tw_184 : (Jvm.Cond.code ({ cls := "TaskCores", name := "coreOf", desc := "(I)LTaskCores$Core;" } : Jvm.MethodName) prog_1_method_18_code (2 : Nat) (Option.some (Jvm.ClassFile.FieldType.object "TaskCores$Core"))) ∈ md_Ts := mw_1 184 rfl rfl
theorem tw_185 : (Jvm.Cond.instantiable "TaskCores$Task" (19 : Nat)) ∈ md_Ts := mw_1 185 rfl rfl
theorem tw_186 : (Jvm.Cond.methodLink "TaskCores" (67 : Nat) ({ cls := "TaskCores$Task", name := "<init>", desc := "(IILTaskCores$Core;IZ)V" } : Jvm.MethodName)) ∈ md_Ts := mw_1 186 rfl rfl
theorem tw_187 : (Jvm.Cond.instanceMethod ({ cls := "TaskCores$Task", name := "<init>", desc := "(IILTaskCores$Core;IZ)V" } : Jvm.MethodName)) ∈ md_Ts := mw_1 187 rfl rfl
theorem tw_188 : (Jvm.Cond.code ({ cls := "TaskCores$Task", name := "<init>", desc := "(IILTaskCores$Core;IZ)V" } : Jvm.MethodName) prog_9_method_1_code (6 : Nat) (Option.none : Option Jvm.ClassFile.FieldType)) ∈ md_Ts := mw_1 188 rfl rfl
theorem tw_189 : (Jvm.Cond.methodLink "TaskCores$Task" (3 : Nat) ({ cls := "java/lang/Object", name := "<init>", desc := "()V" } : Jvm.MethodName)) ∈ md_Ts := mw_1 189 rfl rfl
theorem tw_190 : (Jvm.Cond.classLink "TaskCores$Task" (15 : Nat) "TaskCores$Part") ∈ md_Ts := mw_1 190 rfl rfl
theorem tw_191 : (Jvm.Cond.instantiable "TaskCores$Part" (3 : Nat)) ∈ md_Ts := mw_1 191 rfl rfl
theorem tw_192 : (Jvm.Cond.methodLink "TaskCores$Task" (17 : Nat) ({ cls := "TaskCores$Part", name := "<init>", desc := "(II)V" } : Jvm.MethodName)) ∈ md_Ts := mw_1 192 rfl rfl
theorem tw_193 : (Jvm.Cond.instanceMethod ({ cls := "TaskCores$Part", name := "<init>", desc := "(II)V" } : Jvm.MethodName)) ∈ md_Ts := mw_1 193 rfl rfl
theorem tw_194 : (Jvm.Cond.code ({ cls := "TaskCores$Part", name := "<init>", desc := "(II)V" } : Jvm.MethodName) prog_7_method_1_code (3 : Nat) (Option.none : Option Jvm.ClassFile.FieldType)) ∈ md_Ts := mw_1 194 rfl rfl
theorem tw_195 : (Jvm.Cond.methodLink "TaskCores$Part" (1 : Nat) ({ cls := "java/lang/Object", name := "<init>", desc := "()V" } : Jvm.MethodName)) ∈ md_Ts := mw_1 195 rfl rfl
theorem tw_196 : (Jvm.Cond.fieldLink "TaskCores$Part" (7 : Nat) "TaskCores$Part" "kind" "I") ∈ md_Ts := mw_1 196 rfl rfl
theorem tw_197 : (Jvm.Cond.fieldLink "TaskCores$Task" (75 : Nat) "TaskCores$Part" "kind" "I") ∈ md_Ts := mw_1 197 rfl rfl
theorem tw_198 : (Jvm.Cond.fieldLink "TaskCores" (252 : Nat) "TaskCores$Part" "kind" "I") ∈ md_Ts := mw_1 198 rfl rfl
theorem tw_199 : (Jvm.Cond.fieldLink "TaskCores$Part" (13 : Nat) "TaskCores$Part" "value" "I") ∈ md_Ts := mw_1 199 rfl rfl
theorem tw_200 : (Jvm.Cond.fieldLink "TaskCores$Task" (78 : Nat) "TaskCores$Part" "value" "I") ∈ md_Ts := mw_1 200 rfl rfl
theorem tw_201 : (Jvm.Cond.fieldLink "TaskCores" (255 : Nat) "TaskCores$Part" "value" "I") ∈ md_Ts := mw_1 201 rfl rfl
theorem tw_202 : (Jvm.Cond.fieldLink "TaskCores$Task" (44 : Nat) "TaskCores$Part" "next" "LTaskCores$Part;") ∈ md_Ts := mw_1 202 rfl rfl
theorem tw_203 : (Jvm.Cond.fieldLink "TaskCores$Lock" (33 : Nat) "TaskCores$Part" "next" "LTaskCores$Part;") ∈ md_Ts := mw_1 203 rfl rfl
theorem tw_204 : (Jvm.Cond.fieldLink "TaskCores" (281 : Nat) "TaskCores$Part" "next" "LTaskCores$Part;") ∈ md_Ts := mw_1 204 rfl rfl
theorem tw_212 : (Jvm.Cond.fieldLink "TaskCores$Task" (28 : Nat) "TaskCores$Task" "number" "I") ∈ md_Ts := mw_1 212 rfl rfl
theorem tw_213 : (Jvm.Cond.fieldLink "TaskCores" (201 : Nat) "TaskCores$Task" "number" "I") ∈ md_Ts := mw_1 213 rfl rfl
theorem tw_214 : (Jvm.Cond.fieldLink "TaskCores$Task" (31 : Nat) "TaskCores$Task" "rank" "I") ∈ md_Ts := mw_1 214 rfl rfl
theorem tw_215 : (Jvm.Cond.fieldLink "TaskCores" (92 : Nat) "TaskCores$Task" "rank" "I") ∈ md_Ts := mw_1 215 rfl rfl
theorem tw_216 : (Jvm.Cond.fieldLink "TaskCores$Task" (34 : Nat) "TaskCores$Task" "core" "LTaskCores$Core;") ∈ md_Ts := mw_1 216 rfl rfl
theorem tw_217 : (Jvm.Cond.fieldLink "TaskCores$Lock" (18 : Nat) "TaskCores$Task" "core" "LTaskCores$Core;") ∈ md_Ts := mw_1 217 rfl rfl
theorem tw_218 : (Jvm.Cond.fieldLink "TaskCores" (197 : Nat) "TaskCores$Task" "core" "LTaskCores$Core;") ∈ md_Ts := mw_1 218 rfl rfl
theorem tw_219 : (Jvm.Cond.fieldLink "TaskCores$Task" (38 : Nat) "TaskCores$Task" "bound" "I") ∈ md_Ts := mw_1 219 rfl rfl
theorem tw_220 : (Jvm.Cond.fieldLink "TaskCores" (357 : Nat) "TaskCores$Task" "bound" "I") ∈ md_Ts := mw_1 220 rfl rfl
theorem tw_221 : (Jvm.Cond.fieldLink "TaskCores$Task" (41 : Nat) "TaskCores$Task" "extended" "Z") ∈ md_Ts := mw_1 221 rfl rfl
theorem tw_222 : (Jvm.Cond.fieldLink "TaskCores" (323 : Nat) "TaskCores$Task" "extended" "Z") ∈ md_Ts := mw_1 222 rfl rfl
theorem tw_223 : (Jvm.Cond.fieldLink "TaskCores$Task" (9 : Nat) "TaskCores$Task" "full" "Z") ∈ md_Ts := mw_1 223 rfl rfl
theorem tw_224 : (Jvm.Cond.fieldLink "TaskCores" (110 : Nat) "TaskCores$Task" "full" "Z") ∈ md_Ts := mw_1 224 rfl rfl
theorem tw_225 : (Jvm.Cond.fieldLink "TaskCores$Task" (20 : Nat) "TaskCores$Task" "start" "LTaskCores$Part;") ∈ md_Ts := mw_1 225 rfl rfl
theorem tw_226 : (Jvm.Cond.fieldLink "TaskCores" (363 : Nat) "TaskCores$Task" "start" "LTaskCores$Part;") ∈ md_Ts := mw_1 226 rfl rfl
theorem tw_227 : (Jvm.Cond.fieldLink "TaskCores$Lock" (29 : Nat) "TaskCores$Task" "part" "LTaskCores$Part;") ∈ md_Ts := mw_1 227 rfl rfl
theorem tw_228 : (Jvm.Cond.fieldLink "TaskCores$Task" (72 : Nat) "TaskCores$Task" "part" "LTaskCores$Part;") ∈ md_Ts := mw_1 228 rfl rfl
theorem tw_229 : (Jvm.Cond.fieldLink "TaskCores" (248 : Nat) "TaskCores$Task" "part" "LTaskCores$Part;") ∈ md_Ts := mw_1 229 rfl rfl
theorem tw_230 : (Jvm.Cond.fieldLink "TaskCores$Task" (81 : Nat) "TaskCores$Task" "spent" "I") ∈ md_Ts := mw_1 230 rfl rfl
theorem tw_231 : (Jvm.Cond.fieldLink "TaskCores$Task" (24 : Nat) "TaskCores$Task" "state" "I") ∈ md_Ts := mw_1 231 rfl rfl
theorem tw_232 : (Jvm.Cond.fieldLink "TaskCores" (172 : Nat) "TaskCores$Task" "state" "I") ∈ md_Ts := mw_1 232 rfl rfl
theorem tw_233 : (Jvm.Cond.fieldLink "TaskCores$Task" (69 : Nat) "TaskCores$Task" "turn" "I") ∈ md_Ts := mw_1 233 rfl rfl
theorem tw_234 : (Jvm.Cond.fieldLink "TaskCores" (369 : Nat) "TaskCores$Task" "turn" "I") ∈ md_Ts := mw_1 234 rfl rfl
theorem tw_235 : (Jvm.Cond.fieldLink "TaskCores" (354 : Nat) "TaskCores$Task" "wanted" "I") ∈ md_Ts := mw_1 235 rfl rfl
theorem tw_236 : (Jvm.Cond.fieldLink "TaskCores" (183 : Nat) "TaskCores$Task" "events" "I") ∈ md_Ts := mw_1 236 rfl rfl
theorem tw_237 : (Jvm.Cond.fieldLink "TaskCores" (333 : Nat) "TaskCores$Task" "awaited" "I") ∈ md_Ts := mw_1 237 rfl rfl
theorem tw_238 : (Jvm.Cond.fieldLink "TaskCores$Task" (85 : Nat) "TaskCores$Task" "used" "I") ∈ md_Ts := mw_1 238 rfl rfl
theorem tw_239 : (Jvm.Cond.fieldLink "TaskCores" (169 : Nat) "TaskCores$Task" "used" "I") ∈ md_Ts := mw_1 239 rfl rfl
theorem tw_240 : (Jvm.Cond.fieldLink "TaskCores$Task" (47 : Nat) "TaskCores$Task" "lastGot" "LTaskCores$Resource;") ∈ md_Ts := mw_2 0 rfl rfl
theorem tw_241 : (Jvm.Cond.fieldLink "TaskCores" (326 : Nat) "TaskCores$Task" "lastGot" "LTaskCores$Resource;") ∈ md_Ts := mw_2 1 rfl rfl
theorem tw_242 : (Jvm.Cond.fieldLink "TaskCores$Lock" (25 : Nat) "TaskCores$Task" "lockCount" "I") ∈ md_Ts := mw_2 2 rfl rfl
theorem tw_243 : (Jvm.Cond.fieldLink "TaskCores" (330 : Nat) "TaskCores$Task" "lockCount" "I") ∈ md_Ts := mw_2 3 rfl rfl
theorem tw_244 : (Jvm.Cond.fieldLink "TaskCores$Core" (32 : Nat) "TaskCores$Task" "nextOnCore" "LTaskCores$Task;") ∈ md_Ts := mw_2 4 rfl rfl
theorem tw_245 : (Jvm.Cond.fieldLink "TaskCores" (272 : Nat) "TaskCores$Task" "nextOnCore" "LTaskCores$Task;") ∈ md_Ts := mw_2 5 rfl rfl
theorem tw_246 : (Jvm.Cond.fieldLink "TaskCores$Lock" (13 : Nat) "TaskCores$Task" "nextInQueue" "LTaskCores$Task;") ∈ md_Ts := mw_2 6 rfl rfl
theorem tw_286 : (Jvm.Cond.methodLink "TaskCores" (70 : Nat) ({ cls := "TaskCores$Core", name := "addTask", desc := "(LTaskCores$Task;)V" } : Jvm.MethodName)) ∈ md_Ts := mw_2 46 rfl rfl
theorem tw_287 : (Jvm.Cond.instanceMethod ({ cls := "TaskCores$Core", name := "addTask", desc := "(LTaskCores$Task;)V" } : Jvm.MethodName)) ∈ md_Ts := mw_2 47 rfl rfl
theorem tw_288 : (Jvm.Cond.selects "TaskCores$Core" ({ cls := "TaskCores$Core", name := "addTask", desc := "(LTaskCores$Task;)V" } : Jvm.MethodName) ({ cls := "TaskCores$Core", name := "addTask", desc := "(LTaskCores$Task;)V" } : Jvm.MethodName)) ∈ md_Ts := mw_2 48 rfl rfl
theorem tw_289 : (Jvm.Cond.code ({ cls := "TaskCores$Core", name := "addTask", desc := "(LTaskCores$Task;)V" } : Jvm.MethodName) prog_2_method_2_code (2 : Nat) (Option.none : Option Jvm.ClassFile.FieldType)) ∈ md_Ts := mw_2 49 rfl rfl
theorem tw_290 : (Jvm.Cond.methodLink "TaskCoresLaw" (28 : Nat) ({ cls := "TaskCores", name := "part", desc := "(IIJ)I" } : Jvm.MethodName)) ∈ md_Ts := mw_2 50 rfl rfl
theorem tw_291 : (Jvm.Cond.instanceMethod ({ cls := "TaskCores", name := "part", desc := "(IIJ)I" } : Jvm.MethodName)) ∈ md_Ts := mw_2 51 rfl rfl
theorem tw_292 : (Jvm.Cond.selects "TaskCores" ({ cls := "TaskCores", name := "part", desc := "(IIJ)I" } : Jvm.MethodName) ({ cls := "TaskCores", name := "part", desc := "(IIJ)I" } : Jvm.MethodName)) ∈ md_Ts := mw_2 52 rfl rfl
theorem tw_293 : (Jvm.Cond.code ({ cls := "TaskCores", name := "part", desc := "(IIJ)I" } : Jvm.MethodName) prog_1_method_3_code (8 : Nat) (Option.some Jvm.ClassFile.FieldType.int)) ∈ md_Ts := mw_2 53 rfl rfl
theorem tw_294 : (Jvm.Cond.methodLink "TaskCores" (74 : Nat) ({ cls := "TaskCores", name := "taskOf", desc := "(I)LTaskCores$Task;" } : Jvm.MethodName)) ∈ md_Ts := mw_2 54 rfl rfl
theorem tw_296 : (Jvm.Cond.instanceMethod ({ cls := "TaskCores", name := "taskOf", desc := "(I)LTaskCores$Task;" } : Jvm.MethodName)) ∈ md_Ts := mw_2 56 rfl rfl
theorem tw_297 : (Jvm.Cond.code ({ cls := "TaskCores", name := "taskOf", desc := "(I)LTaskCores$Task;" } : Jvm.MethodName) prog_1_method_19_code (2 : Nat) (Option.some (Jvm.ClassFile.FieldType.object "TaskCores$Task"))) ∈ md_Ts := mw_2 57 rfl rfl
theorem tw_298 : (Jvm.Cond.methodLink "TaskCores" (78 : Nat) ({ cls := "TaskCores", name := "mayBePart", desc := "(IJ)Z" } : Jvm.MethodName)) ∈ md_Ts := mw_2 58 rfl rfl
theorem tw_299 : (Jvm.Cond.static ({ cls := "TaskCores", name := "mayBePart", desc := "(IJ)Z" } : Jvm.MethodName)) ∈ md_Ts := mw_2 59 rfl rfl
theorem tw_300 : (Jvm.Cond.code ({ cls := "TaskCores", name := "mayBePart", desc := "(IJ)Z" } : Jvm.MethodName) prog_1_method_23_code (3 : Nat) (Option.some Jvm.ClassFile.FieldType.boolean)) ∈ md_Ts := mw_2 60 rfl rfl
theorem tw_301 : (Jvm.Cond.fieldLink "TaskCores" (211 : Nat) "TaskCores" "LEAST_VALUE" "[I") ∈ md_Ts := mw_2 61 rfl rfl
theorem tw_303 : (Jvm.Cond.fieldLink "TaskCores" (215 : Nat) "TaskCores" "MOST_VALUE" "[I") ∈ md_Ts := mw_2 63 rfl rfl
theorem tw_305 : (Jvm.Cond.constantLong "TaskCores" (218 : Nat) (65536 : Int64)) ∈ md_Ts := mw_2 65 rfl rfl
theorem tw_306 : (Jvm.Cond.methodLink "TaskCores" (85 : Nat) ({ cls := "TaskCores", name := "resourceOf", desc := "(I)LTaskCores$Resource;" } : Jvm.MethodName)) ∈ md_Ts := mw_2 66 rfl rfl
theorem tw_308 : (Jvm.Cond.instanceMethod ({ cls := "TaskCores", name := "resourceOf", desc := "(I)LTaskCores$Resource;" } : Jvm.MethodName)) ∈ md_Ts := mw_2 68 rfl rfl
theorem tw_309 : (Jvm.Cond.code ({ cls := "TaskCores", name := "resourceOf", desc := "(I)LTaskCores$Resource;" } : Jvm.MethodName) prog_1_method_20_code (2 : Nat) (Option.some (Jvm.ClassFile.FieldType.object "TaskCores$Resource"))) ∈ md_Ts := mw_2 69 rfl rfl
theorem tw_310 : (Jvm.Cond.methodLink "TaskCores" (95 : Nat) ({ cls := "java/lang/Math", name := "max", desc := "(II)I" } : Jvm.MethodName)) ∈ md_Ts := mw_2 70 rfl rfl
theorem tw_311 : (Jvm.Cond.classLink "TaskCores" (101 : Nat) "TaskCores$Part") ∈ md_Ts := mw_2 71 rfl rfl
theorem tw_312 : (Jvm.Cond.methodLink "TaskCores" (103 : Nat) ({ cls := "TaskCores$Part", name := "<init>", desc := "(II)V" } : Jvm.MethodName)) ∈ md_Ts := mw_2 72 rfl rfl
theorem tw_313 : (Jvm.Cond.methodLink "TaskCores" (106 : Nat) ({ cls := "TaskCores$Task", name := "addPart", desc := "(LTaskCores$Part;)I" } : Jvm.MethodName)) ∈ md_Ts := mw_2 73 rfl rfl
theorem tw_314 : (Jvm.Cond.instanceMethod ({ cls := "TaskCores$Task", name := "addPart", desc := "(LTaskCores$Part;)I" } : Jvm.MethodName)) ∈ md_Ts := mw_2 74 rfl rfl
theorem tw_315 : (Jvm.Cond.selects "TaskCores$Task" ({ cls := "TaskCores$Task", name := "addPart", desc := "(LTaskCores$Part;)I" } : Jvm.MethodName) ({ cls := "TaskCores$Task", name := "addPart", desc := "(LTaskCores$Part;)I" } : Jvm.MethodName)) ∈ md_Ts := mw_2 75 rfl rfl
theorem tw_316 : (Jvm.Cond.code ({ cls := "TaskCores$Task", name := "addPart", desc := "(LTaskCores$Part;)I" } : Jvm.MethodName) prog_9_method_2_code (5 : Nat) (Option.some Jvm.ClassFile.FieldType.int)) ∈ md_Ts := mw_2 76 rfl rfl
theorem tw_317 : (Jvm.Cond.methodLink "TaskCoresLaw" (33 : Nat) ({ cls := "TaskCores", name := "manner", desc := "(IZ)I" } : Jvm.MethodName)) ∈ md_Ts := mw_2 77 rfl rfl
theorem tw_318 : (Jvm.Cond.instanceMethod ({ cls := "TaskCores", name := "manner", desc := "(IZ)I" } : Jvm.MethodName)) ∈ md_Ts := mw_2 78 rfl rfl
theorem tw_319 : (Jvm.Cond.selects "TaskCores" ({ cls := "TaskCores", name := "manner", desc := "(IZ)I" } : Jvm.MethodName) ({ cls := "TaskCores", name := "manner", desc := "(IZ)I" } : Jvm.MethodName)) ∈ md_Ts := mw_2 79 rfl rfl
theorem tw_320 : (Jvm.Cond.code ({ cls := "TaskCores", name := "manner", desc := "(IZ)I" } : Jvm.MethodName) prog_1_method_4_code (4 : Nat) (Option.some Jvm.ClassFile.FieldType.int)) ∈ md_Ts := mw_2 80 rfl rfl
theorem tw_321 : (Jvm.Cond.methodLink "TaskCoresLaw" (38 : Nat) ({ cls := "TaskCores", name := "activate", desc := "(IJ)I" } : Jvm.MethodName)) ∈ md_Ts := mw_2 81 rfl rfl
theorem tw_322 : (Jvm.Cond.instanceMethod ({ cls := "TaskCores", name := "activate", desc := "(IJ)I" } : Jvm.MethodName)) ∈ md_Ts := mw_2 82 rfl rfl
theorem tw_323 : (Jvm.Cond.selects "TaskCores" ({ cls := "TaskCores", name := "activate", desc := "(IJ)I" } : Jvm.MethodName) ({ cls := "TaskCores", name := "activate", desc := "(IJ)I" } : Jvm.MethodName)) ∈ md_Ts := mw_2 83 rfl rfl
theorem tw_324 : (Jvm.Cond.code ({ cls := "TaskCores", name := "activate", desc := "(IJ)I" } : Jvm.MethodName) prog_1_method_5_code (5 : Nat) (Option.some Jvm.ClassFile.FieldType.int)) ∈ md_Ts := mw_2 84 rfl rfl
theorem tw_325 : (Jvm.Cond.methodLink "TaskCores" (114 : Nat) ({ cls := "TaskCores", name := "isToCome", desc := "(J)Z" } : Jvm.MethodName)) ∈ md_Ts := mw_2 85 rfl rfl
theorem tw_327 : (Jvm.Cond.instanceMethod ({ cls := "TaskCores", name := "isToCome", desc := "(J)Z" } : Jvm.MethodName)) ∈ md_Ts := mw_2 87 rfl rfl
theorem tw_328 : (Jvm.Cond.code ({ cls := "TaskCores", name := "isToCome", desc := "(J)Z" } : Jvm.MethodName) prog_1_method_22_code (3 : Nat) (Option.some Jvm.ClassFile.FieldType.boolean)) ∈ md_Ts := mw_2 88 rfl rfl
theorem tw_329 : (Jvm.Cond.constantLong "TaskCores" (209 : Nat) (50000 : Int64)) ∈ md_Ts := mw_2 89 rfl rfl
theorem tw_330 : (Jvm.Cond.classLink "TaskCores" (121 : Nat) "TaskCores$Telling") ∈ md_Ts := mw_2 90 rfl rfl
theorem tw_331 : (Jvm.Cond.instantiable "TaskCores$Telling" (3 : Nat)) ∈ md_Ts := mw_2 91 rfl rfl
theorem tw_332 : (Jvm.Cond.methodLink "TaskCores" (123 : Nat) ({ cls := "TaskCores$Telling", name := "<init>", desc := "(LTaskCores$Task;I)V" } : Jvm.MethodName)) ∈ md_Ts := mw_2 92 rfl rfl
theorem tw_333 : (Jvm.Cond.instanceMethod ({ cls := "TaskCores$Telling", name := "<init>", desc := "(LTaskCores$Task;I)V" } : Jvm.MethodName)) ∈ md_Ts := mw_2 93 rfl rfl
theorem tw_334 : (Jvm.Cond.code ({ cls := "TaskCores$Telling", name := "<init>", desc := "(LTaskCores$Task;I)V" } : Jvm.MethodName) prog_10_method_1_code (3 : Nat) (Option.none : Option Jvm.ClassFile.FieldType)) ∈ md_Ts := mw_2 94 rfl rfl
theorem tw_335 : (Jvm.Cond.methodLink "TaskCores$Telling" (1 : Nat) ({ cls := "java/lang/Object", name := "<init>", desc := "()V" } : Jvm.MethodName)) ∈ md_Ts := mw_2 95 rfl rfl
theorem tw_336 : (Jvm.Cond.fieldLink "TaskCores$Telling" (7 : Nat) "TaskCores$Telling" "task" "LTaskCores$Task;") ∈ md_Ts := mw_2 96 rfl rfl
theorem tw_337 : (Jvm.Cond.fieldLink "TaskCores" (228 : Nat) "TaskCores$Telling" "task" "LTaskCores$Task;") ∈ md_Ts := mw_2 97 rfl rfl
theorem tw_338 : (Jvm.Cond.fieldLink "TaskCores$Telling" (13 : Nat) "TaskCores$Telling" "time" "I") ∈ md_Ts := mw_2 98 rfl rfl
theorem tw_339 : (Jvm.Cond.fieldLink "TaskCores" (224 : Nat) "TaskCores$Telling" "time" "I") ∈ md_Ts := mw_2 99 rfl rfl
theorem tw_340 : (Jvm.Cond.fieldLink "TaskCores" (225 : Nat) "TaskCores$Telling" "next" "LTaskCores$Telling;") ∈ md_Ts := mw_2 100 rfl rfl
theorem tw_348 : (Jvm.Cond.methodLink "TaskCores" (126 : Nat) ({ cls := "TaskCores", name := "addTelling", desc := "(LTaskCores$Telling;)V" } : Jvm.MethodName)) ∈ md_Ts := mw_2 108 rfl rfl
theorem tw_350 : (Jvm.Cond.instanceMethod ({ cls := "TaskCores", name := "addTelling", desc := "(LTaskCores$Telling;)V" } : Jvm.MethodName)) ∈ md_Ts := mw_2 110 rfl rfl
theorem tw_351 : (Jvm.Cond.code ({ cls := "TaskCores", name := "addTelling", desc := "(LTaskCores$Telling;)V" } : Jvm.MethodName) prog_1_method_24_code (4 : Nat) (Option.none : Option Jvm.ClassFile.FieldType)) ∈ md_Ts := mw_2 111 rfl rfl
theorem tw_352 : (Jvm.Cond.methodLink "TaskCoresLaw" (43 : Nat) ({ cls := "TaskCores", name := "interrupt", desc := "(IJJ)I" } : Jvm.MethodName)) ∈ md_Ts := mw_2 112 rfl rfl
theorem tw_353 : (Jvm.Cond.instanceMethod ({ cls := "TaskCores", name := "interrupt", desc := "(IJJ)I" } : Jvm.MethodName)) ∈ md_Ts := mw_2 113 rfl rfl
theorem tw_354 : (Jvm.Cond.selects "TaskCores" ({ cls := "TaskCores", name := "interrupt", desc := "(IJJ)I" } : Jvm.MethodName) ({ cls := "TaskCores", name := "interrupt", desc := "(IJJ)I" } : Jvm.MethodName)) ∈ md_Ts := mw_2 114 rfl rfl
theorem tw_355 : (Jvm.Cond.code ({ cls := "TaskCores", name := "interrupt", desc := "(IJJ)I" } : Jvm.MethodName) prog_1_method_6_code (6 : Nat) (Option.some Jvm.ClassFile.FieldType.int)) ∈ md_Ts := mw_2 115 rfl rfl
theorem tw_356 : (Jvm.Cond.constantLong "TaskCores" (130 : Nat) (10000 : Int64)) ∈ md_Ts := mw_2 116 rfl rfl
theorem tw_357 : (Jvm.Cond.classLink "TaskCores" (135 : Nat) "TaskCores$Interrupt") ∈ md_Ts := mw_2 117 rfl rfl
theorem tw_358 : (Jvm.Cond.instantiable "TaskCores$Interrupt" (4 : Nat)) ∈ md_Ts := mw_2 118 rfl rfl
theorem tw_359 : (Jvm.Cond.methodLink "TaskCores" (137 : Nat) ({ cls := "TaskCores$Interrupt", name := "<init>", desc := "(III)V" } : Jvm.MethodName)) ∈ md_Ts := mw_2 119 rfl rfl
theorem tw_360 : (Jvm.Cond.instanceMethod ({ cls := "TaskCores$Interrupt", name := "<init>", desc := "(III)V" } : Jvm.MethodName)) ∈ md_Ts := mw_2 120 rfl rfl
theorem tw_361 : (Jvm.Cond.code ({ cls := "TaskCores$Interrupt", name := "<init>", desc := "(III)V" } : Jvm.MethodName) prog_3_method_1_code (4 : Nat) (Option.none : Option Jvm.ClassFile.FieldType)) ∈ md_Ts := mw_2 121 rfl rfl
theorem tw_362 : (Jvm.Cond.methodLink "TaskCores$Interrupt" (1 : Nat) ({ cls := "java/lang/Object", name := "<init>", desc := "()V" } : Jvm.MethodName)) ∈ md_Ts := mw_2 122 rfl rfl
theorem tw_363 : (Jvm.Cond.fieldLink "TaskCores$Interrupt" (7 : Nat) "TaskCores$Interrupt" "level" "I") ∈ md_Ts := mw_2 123 rfl rfl
theorem tw_364 : (Jvm.Cond.fieldLink "TaskCores$Interrupts" (19 : Nat) "TaskCores$Interrupt" "level" "I") ∈ md_Ts := mw_2 124 rfl rfl
theorem tw_365 : (Jvm.Cond.fieldLink "TaskCores" (387 : Nat) "TaskCores$Interrupt" "level" "I") ∈ md_Ts := mw_2 125 rfl rfl
theorem tw_366 : (Jvm.Cond.fieldLink "TaskCores$Interrupt" (13 : Nat) "TaskCores$Interrupt" "at" "I") ∈ md_Ts := mw_2 126 rfl rfl
theorem tw_367 : (Jvm.Cond.fieldLink "TaskCores$Interrupts" (27 : Nat) "TaskCores$Interrupt" "at" "I") ∈ md_Ts := mw_2 127 rfl rfl
theorem tw_368 : (Jvm.Cond.fieldLink "TaskCores$Interrupt" (16 : Nat) "TaskCores$Interrupt" "left" "I") ∈ md_Ts := mw_2 128 rfl rfl
theorem tw_369 : (Jvm.Cond.fieldLink "TaskCores$Interrupts" (44 : Nat) "TaskCores$Interrupt" "left" "I") ∈ md_Ts := mw_2 129 rfl rfl
theorem tw_370 : (Jvm.Cond.fieldLink "TaskCores" (380 : Nat) "TaskCores$Interrupt" "left" "I") ∈ md_Ts := mw_2 130 rfl rfl
theorem tw_371 : (Jvm.Cond.fieldLink "TaskCores$Interrupts" (24 : Nat) "TaskCores$Interrupt" "next" "LTaskCores$Interrupt;") ∈ md_Ts := mw_2 131 rfl rfl
theorem tw_381 : (Jvm.Cond.methodLink "TaskCores" (140 : Nat) ({ cls := "TaskCores$Interrupts", name := "add", desc := "(LTaskCores$Interrupt;)V" } : Jvm.MethodName)) ∈ md_Ts := mw_2 141 rfl rfl
theorem tw_382 : (Jvm.Cond.instanceMethod ({ cls := "TaskCores$Interrupts", name := "add", desc := "(LTaskCores$Interrupt;)V" } : Jvm.MethodName)) ∈ md_Ts := mw_2 142 rfl rfl
theorem tw_383 : (Jvm.Cond.selects "TaskCores$Interrupts" ({ cls := "TaskCores$Interrupts", name := "add", desc := "(LTaskCores$Interrupt;)V" } : Jvm.MethodName) ({ cls := "TaskCores$Interrupts", name := "add", desc := "(LTaskCores$Interrupt;)V" } : Jvm.MethodName)) ∈ md_Ts := mw_2 143 rfl rfl
theorem tw_384 : (Jvm.Cond.code ({ cls := "TaskCores$Interrupts", name := "add", desc := "(LTaskCores$Interrupt;)V" } : Jvm.MethodName) prog_4_method_2_code (4 : Nat) (Option.none : Option Jvm.ClassFile.FieldType)) ∈ md_Ts := mw_2 144 rfl rfl
theorem tw_385 : (Jvm.Cond.methodLink "TaskCoresLaw" (48 : Nat) ({ cls := "TaskCores", name := "run", desc := "(J)I" } : Jvm.MethodName)) ∈ md_Ts := mw_2 145 rfl rfl
theorem tw_386 : (Jvm.Cond.instanceMethod ({ cls := "TaskCores", name := "run", desc := "(J)I" } : Jvm.MethodName)) ∈ md_Ts := mw_2 146 rfl rfl
theorem tw_387 : (Jvm.Cond.selects "TaskCores" ({ cls := "TaskCores", name := "run", desc := "(J)I" } : Jvm.MethodName) ({ cls := "TaskCores", name := "run", desc := "(J)I" } : Jvm.MethodName)) ∈ md_Ts := mw_2 147 rfl rfl
theorem tw_388 : (Jvm.Cond.code ({ cls := "TaskCores", name := "run", desc := "(J)I" } : Jvm.MethodName) prog_1_method_7_code (10 : Nat) (Option.some Jvm.ClassFile.FieldType.int)) ∈ md_Ts := mw_2 148 rfl rfl
theorem tw_389 : (Jvm.Cond.methodLink "TaskCores" (144 : Nat) ({ cls := "TaskCores", name := "activateThoseTold", desc := "()V" } : Jvm.MethodName)) ∈ md_Ts := mw_2 149 rfl rfl
theorem tw_391 : (Jvm.Cond.instanceMethod ({ cls := "TaskCores", name := "activateThoseTold", desc := "()V" } : Jvm.MethodName)) ∈ md_Ts := mw_2 151 rfl rfl
theorem tw_392 : (Jvm.Cond.code ({ cls := "TaskCores", name := "activateThoseTold", desc := "()V" } : Jvm.MethodName) prog_1_method_25_code (2 : Nat) (Option.none : Option Jvm.ClassFile.FieldType)) ∈ md_Ts := mw_2 152 rfl rfl
theorem tw_393 : (Jvm.Cond.methodLink "TaskCores" (231 : Nat) ({ cls := "TaskCores", name := "activateTask", desc := "(LTaskCores$Task;)V" } : Jvm.MethodName)) ∈ md_Ts := mw_2 153 rfl rfl
theorem tw_395 : (Jvm.Cond.instanceMethod ({ cls := "TaskCores", name := "activateTask", desc := "(LTaskCores$Task;)V" } : Jvm.MethodName)) ∈ md_Ts := mw_2 155 rfl rfl
theorem tw_396 : (Jvm.Cond.code ({ cls := "TaskCores", name := "activateTask", desc := "(LTaskCores$Task;)V" } : Jvm.MethodName) prog_1_method_43_code (2 : Nat) (Option.none : Option Jvm.ClassFile.FieldType)) ∈ md_Ts := mw_2 156 rfl rfl
theorem tw_397 : (Jvm.Cond.methodLink "TaskCores" (351 : Nat) ({ cls := "TaskCores", name := "startTask", desc := "(LTaskCores$Task;)V" } : Jvm.MethodName)) ∈ md_Ts := mw_2 157 rfl rfl
theorem tw_399 : (Jvm.Cond.instanceMethod ({ cls := "TaskCores", name := "startTask", desc := "(LTaskCores$Task;)V" } : Jvm.MethodName)) ∈ md_Ts := mw_2 159 rfl rfl
theorem tw_400 : (Jvm.Cond.code ({ cls := "TaskCores", name := "startTask", desc := "(LTaskCores$Task;)V" } : Jvm.MethodName) prog_1_method_46_code (2 : Nat) (Option.none : Option Jvm.ClassFile.FieldType)) ∈ md_Ts := mw_2 160 rfl rfl
theorem tw_401 : (Jvm.Cond.methodLink "TaskCores" (348 : Nat) ({ cls := "TaskCores", name := "makeReady", desc := "(LTaskCores$Task;)V" } : Jvm.MethodName)) ∈ md_Ts := mw_2 161 rfl rfl
theorem tw_403 : (Jvm.Cond.instanceMethod ({ cls := "TaskCores", name := "makeReady", desc := "(LTaskCores$Task;)V" } : Jvm.MethodName)) ∈ md_Ts := mw_2 163 rfl rfl
theorem tw_404 : (Jvm.Cond.code ({ cls := "TaskCores", name := "makeReady", desc := "(LTaskCores$Task;)V" } : Jvm.MethodName) prog_1_method_47_code (2 : Nat) (Option.none : Option Jvm.ClassFile.FieldType)) ∈ md_Ts := mw_2 164 rfl rfl
theorem tw_405 : (Jvm.Cond.methodLink "TaskCores" (319 : Nat) ({ cls := "TaskCores", name := "tellCode", desc := "(ILTaskCores$Task;)V" } : Jvm.MethodName)) ∈ md_Ts := mw_2 165 rfl rfl
theorem tw_407 : (Jvm.Cond.instanceMethod ({ cls := "TaskCores", name := "tellCode", desc := "(ILTaskCores$Task;)V" } : Jvm.MethodName)) ∈ md_Ts := mw_2 167 rfl rfl
theorem tw_408 : (Jvm.Cond.code ({ cls := "TaskCores", name := "tellCode", desc := "(ILTaskCores$Task;)V" } : Jvm.MethodName) prog_1_method_48_code (3 : Nat) (Option.none : Option Jvm.ClassFile.FieldType)) ∈ md_Ts := mw_2 168 rfl rfl
theorem tw_409 : (Jvm.Cond.methodLink "TaskCores" (372 : Nat) ({ cls := "TaskCores$Log", name := "add", desc := "(III)V" } : Jvm.MethodName)) ∈ md_Ts := mw_2 169 rfl rfl
theorem tw_410 : (Jvm.Cond.instanceMethod ({ cls := "TaskCores$Log", name := "add", desc := "(III)V" } : Jvm.MethodName)) ∈ md_Ts := mw_2 170 rfl rfl
theorem tw_411 : (Jvm.Cond.selects "TaskCores$Log" ({ cls := "TaskCores$Log", name := "add", desc := "(III)V" } : Jvm.MethodName) ({ cls := "TaskCores$Log", name := "add", desc := "(III)V" } : Jvm.MethodName)) ∈ md_Ts := mw_2 171 rfl rfl
theorem tw_412 : (Jvm.Cond.code ({ cls := "TaskCores$Log", name := "add", desc := "(III)V" } : Jvm.MethodName) prog_6_method_2_code (6 : Nat) (Option.none : Option Jvm.ClassFile.FieldType)) ∈ md_Ts := mw_2 172 rfl rfl
theorem tw_413 : (Jvm.Cond.methodLink "TaskCores" (147 : Nat) ({ cls := "TaskCores", name := "takeSteps", desc := "()V" } : Jvm.MethodName)) ∈ md_Ts := mw_2 173 rfl rfl
theorem tw_415 : (Jvm.Cond.instanceMethod ({ cls := "TaskCores", name := "takeSteps", desc := "()V" } : Jvm.MethodName)) ∈ md_Ts := mw_2 175 rfl rfl
theorem tw_416 : (Jvm.Cond.code ({ cls := "TaskCores", name := "takeSteps", desc := "()V" } : Jvm.MethodName) prog_1_method_26_code (9 : Nat) (Option.none : Option Jvm.ClassFile.FieldType)) ∈ md_Ts := mw_2 176 rfl rfl
theorem tw_417 : (Jvm.Cond.methodLink "TaskCores" (234 : Nat) ({ cls := "TaskCores", name := "taskWithStep", desc := "(LTaskCores$Core;)LTaskCores$Task;" } : Jvm.MethodName)) ∈ md_Ts := mw_2 177 rfl rfl
theorem tw_419 : (Jvm.Cond.instanceMethod ({ cls := "TaskCores", name := "taskWithStep", desc := "(LTaskCores$Core;)LTaskCores$Task;" } : Jvm.MethodName)) ∈ md_Ts := mw_2 179 rfl rfl
theorem tw_420 : (Jvm.Cond.code ({ cls := "TaskCores", name := "taskWithStep", desc := "(LTaskCores$Core;)LTaskCores$Task;" } : Jvm.MethodName) prog_1_method_27_code (5 : Nat) (Option.some (Jvm.ClassFile.FieldType.object "TaskCores$Task"))) ∈ md_Ts := mw_2 180 rfl rfl
theorem tw_421 : (Jvm.Cond.methodLink "TaskCores" (241 : Nat) ({ cls := "TaskCores$Interrupts", name := "atHand", desc := "(I)LTaskCores$Interrupt;" } : Jvm.MethodName)) ∈ md_Ts := mw_2 181 rfl rfl
theorem tw_422 : (Jvm.Cond.instanceMethod ({ cls := "TaskCores$Interrupts", name := "atHand", desc := "(I)LTaskCores$Interrupt;" } : Jvm.MethodName)) ∈ md_Ts := mw_2 182 rfl rfl
theorem tw_423 : (Jvm.Cond.selects "TaskCores$Interrupts" ({ cls := "TaskCores$Interrupts", name := "atHand", desc := "(I)LTaskCores$Interrupt;" } : Jvm.MethodName) ({ cls := "TaskCores$Interrupts", name := "atHand", desc := "(I)LTaskCores$Interrupt;" } : Jvm.MethodName)) ∈ md_Ts := mw_2 183 rfl rfl
theorem tw_424 : (Jvm.Cond.code ({ cls := "TaskCores$Interrupts", name := "atHand", desc := "(I)LTaskCores$Interrupt;" } : Jvm.MethodName) prog_4_method_3_code (3 : Nat) (Option.some (Jvm.ClassFile.FieldType.object "TaskCores$Interrupt"))) ∈ md_Ts := mw_2 184 rfl rfl
theorem tw_425 : (Jvm.Cond.methodLink "TaskCores" (153 : Nat) ({ cls := "TaskCores", name := "choose", desc := "(LTaskCores$Core;)V" } : Jvm.MethodName)) ∈ md_Ts := mw_2 185 rfl rfl
theorem tw_427 : (Jvm.Cond.instanceMethod ({ cls := "TaskCores", name := "choose", desc := "(LTaskCores$Core;)V" } : Jvm.MethodName)) ∈ md_Ts := mw_2 187 rfl rfl
theorem tw_428 : (Jvm.Cond.code ({ cls := "TaskCores", name := "choose", desc := "(LTaskCores$Core;)V" } : Jvm.MethodName) prog_1_method_28_code (5 : Nat) (Option.none : Option Jvm.ClassFile.FieldType)) ∈ md_Ts := mw_2 188 rfl rfl
theorem tw_429 : (Jvm.Cond.methodLink "TaskCores" (268 : Nat) ({ cls := "TaskCores$Task", name := "comesBefore", desc := "(LTaskCores$Task;)Z" } : Jvm.MethodName)) ∈ md_Ts := mw_2 189 rfl rfl
theorem tw_430 : (Jvm.Cond.instanceMethod ({ cls := "TaskCores$Task", name := "comesBefore", desc := "(LTaskCores$Task;)Z" } : Jvm.MethodName)) ∈ md_Ts := mw_2 190 rfl rfl
theorem tw_431 : (Jvm.Cond.selects "TaskCores$Task" ({ cls := "TaskCores$Task", name := "comesBefore", desc := "(LTaskCores$Task;)Z" } : Jvm.MethodName) ({ cls := "TaskCores$Task", name := "comesBefore", desc := "(LTaskCores$Task;)Z" } : Jvm.MethodName)) ∈ md_Ts := mw_2 191 rfl rfl
theorem tw_432 : (Jvm.Cond.code ({ cls := "TaskCores$Task", name := "comesBefore", desc := "(LTaskCores$Task;)Z" } : Jvm.MethodName) prog_9_method_5_code (4 : Nat) (Option.some Jvm.ClassFile.FieldType.boolean)) ∈ md_Ts := mw_2 192 rfl rfl
theorem tw_433 : (Jvm.Cond.methodLink "TaskCores$Task" (65 : Nat) ({ cls := "TaskCores$Task", name := "height", desc := "()I" } : Jvm.MethodName)) ∈ md_Ts := mw_2 193 rfl rfl
theorem tw_434 : (Jvm.Cond.instanceMethod ({ cls := "TaskCores$Task", name := "height", desc := "()I" } : Jvm.MethodName)) ∈ md_Ts := mw_2 194 rfl rfl
theorem tw_435 : (Jvm.Cond.selects "TaskCores$Task" ({ cls := "TaskCores$Task", name := "height", desc := "()I" } : Jvm.MethodName) ({ cls := "TaskCores$Task", name := "height", desc := "()I" } : Jvm.MethodName)) ∈ md_Ts := mw_2 195 rfl rfl
theorem tw_436 : (Jvm.Cond.code ({ cls := "TaskCores$Task", name := "height", desc := "()I" } : Jvm.MethodName) prog_9_method_4_code (3 : Nat) (Option.some Jvm.ClassFile.FieldType.int)) ∈ md_Ts := mw_2 196 rfl rfl
theorem tw_437 : (Jvm.Cond.methodLink "TaskCores$Task" (56 : Nat) ({ cls := "java/lang/Math", name := "max", desc := "(II)I" } : Jvm.MethodName)) ∈ md_Ts := mw_2 197 rfl rfl
theorem tw_438 : (Jvm.Cond.methodLink "TaskCores" (189 : Nat) ({ cls := "TaskCores", name := "lockOf", desc := "(I)LTaskCores$Lock;" } : Jvm.MethodName)) ∈ md_Ts := mw_2 198 rfl rfl
theorem tw_440 : (Jvm.Cond.instanceMethod ({ cls := "TaskCores", name := "lockOf", desc := "(I)LTaskCores$Lock;" } : Jvm.MethodName)) ∈ md_Ts := mw_2 200 rfl rfl
theorem tw_441 : (Jvm.Cond.code ({ cls := "TaskCores", name := "lockOf", desc := "(I)LTaskCores$Lock;" } : Jvm.MethodName) prog_1_method_21_code (2 : Nat) (Option.some (Jvm.ClassFile.FieldType.object "TaskCores$Lock"))) ∈ md_Ts := mw_2 201 rfl rfl
theorem tw_442 : (Jvm.Cond.methodLink "TaskCores" (258 : Nat) ({ cls := "TaskCores", name := "startsToSpin", desc := "(LTaskCores$Task;LTaskCores$Lock;)Z" } : Jvm.MethodName)) ∈ md_Ts := mw_2 202 rfl rfl
theorem tw_443 : (Jvm.Cond.static ({ cls := "TaskCores", name := "startsToSpin", desc := "(LTaskCores$Task;LTaskCores$Lock;)Z" } : Jvm.MethodName)) ∈ md_Ts := mw_2 203 rfl rfl
theorem tw_444 : (Jvm.Cond.code ({ cls := "TaskCores", name := "startsToSpin", desc := "(LTaskCores$Task;LTaskCores$Lock;)Z" } : Jvm.MethodName) prog_1_method_29_code (2 : Nat) (Option.some Jvm.ClassFile.FieldType.boolean)) ∈ md_Ts := mw_2 204 rfl rfl
theorem tw_445 : (Jvm.Cond.methodLink "TaskCores" (275 : Nat) ({ cls := "TaskCores$Lock", name := "addToQueue", desc := "(LTaskCores$Task;)V" } : Jvm.MethodName)) ∈ md_Ts := mw_2 205 rfl rfl
theorem tw_446 : (Jvm.Cond.instanceMethod ({ cls := "TaskCores$Lock", name := "addToQueue", desc := "(LTaskCores$Task;)V" } : Jvm.MethodName)) ∈ md_Ts := mw_2 206 rfl rfl
theorem tw_447 : (Jvm.Cond.selects "TaskCores$Lock" ({ cls := "TaskCores$Lock", name := "addToQueue", desc := "(LTaskCores$Task;)V" } : Jvm.MethodName) ({ cls := "TaskCores$Lock", name := "addToQueue", desc := "(LTaskCores$Task;)V" } : Jvm.MethodName)) ∈ md_Ts := mw_2 207 rfl rfl
theorem tw_448 : (Jvm.Cond.code ({ cls := "TaskCores$Lock", name := "addToQueue", desc := "(LTaskCores$Task;)V" } : Jvm.MethodName) prog_5_method_2_code (4 : Nat) (Option.none : Option Jvm.ClassFile.FieldType)) ∈ md_Ts := mw_2 208 rfl rfl
theorem tw_449 : (Jvm.Cond.methodLink "TaskCores" (237 : Nat) ({ cls := "TaskCores", name := "doNextPart", desc := "(LTaskCores$Task;)V" } : Jvm.MethodName)) ∈ md_Ts := mw_2 209 rfl rfl
theorem tw_451 : (Jvm.Cond.instanceMethod ({ cls := "TaskCores", name := "doNextPart", desc := "(LTaskCores$Task;)V" } : Jvm.MethodName)) ∈ md_Ts := mw_2 211 rfl rfl
theorem tw_452 : (Jvm.Cond.code ({ cls := "TaskCores", name := "doNextPart", desc := "(LTaskCores$Task;)V" } : Jvm.MethodName) prog_1_method_30_code (4 : Nat) (Option.none : Option Jvm.ClassFile.FieldType)) ∈ md_Ts := mw_2 212 rfl rfl
theorem tw_453 : (Jvm.Cond.methodLink "TaskCores" (278 : Nat) ({ cls := "TaskCores", name := "endTask", desc := "(LTaskCores$Task;)V" } : Jvm.MethodName)) ∈ md_Ts := mw_2 213 rfl rfl
theorem tw_455 : (Jvm.Cond.instanceMethod ({ cls := "TaskCores", name := "endTask", desc := "(LTaskCores$Task;)V" } : Jvm.MethodName)) ∈ md_Ts := mw_2 215 rfl rfl
theorem tw_456 : (Jvm.Cond.code ({ cls := "TaskCores", name := "endTask", desc := "(LTaskCores$Task;)V" } : Jvm.MethodName) prog_1_method_44_code (2 : Nat) (Option.none : Option Jvm.ClassFile.FieldType)) ∈ md_Ts := mw_2 216 rfl rfl
theorem tw_457 : (Jvm.Cond.methodLink "TaskCores" (360 : Nat) ({ cls := "TaskCores", name := "freeAll", desc := "(LTaskCores$Task;)Z" } : Jvm.MethodName)) ∈ md_Ts := mw_2 217 rfl rfl
theorem tw_459 : (Jvm.Cond.instanceMethod ({ cls := "TaskCores", name := "freeAll", desc := "(LTaskCores$Task;)Z" } : Jvm.MethodName)) ∈ md_Ts := mw_2 219 rfl rfl
theorem tw_460 : (Jvm.Cond.code ({ cls := "TaskCores", name := "freeAll", desc := "(LTaskCores$Task;)Z" } : Jvm.MethodName) prog_1_method_45_code (7 : Nat) (Option.some Jvm.ClassFile.FieldType.boolean)) ∈ md_Ts := mw_2 220 rfl rfl
theorem tw_461 : (Jvm.Cond.methodLink "TaskCores" (339 : Nat) ({ cls := "TaskCores$Lock", name := "handOn", desc := "()V" } : Jvm.MethodName)) ∈ md_Ts := mw_2 221 rfl rfl
theorem tw_462 : (Jvm.Cond.instanceMethod ({ cls := "TaskCores$Lock", name := "handOn", desc := "()V" } : Jvm.MethodName)) ∈ md_Ts := mw_2 222 rfl rfl
theorem tw_463 : (Jvm.Cond.selects "TaskCores$Lock" ({ cls := "TaskCores$Lock", name := "handOn", desc := "()V" } : Jvm.MethodName) ({ cls := "TaskCores$Lock", name := "handOn", desc := "()V" } : Jvm.MethodName)) ∈ md_Ts := mw_2 223 rfl rfl
theorem tw_464 : (Jvm.Cond.code ({ cls := "TaskCores$Lock", name := "handOn", desc := "()V" } : Jvm.MethodName) prog_5_method_4_code (2 : Nat) (Option.none : Option Jvm.ClassFile.FieldType)) ∈ md_Ts := mw_2 224 rfl rfl
theorem tw_465 : (Jvm.Cond.methodLink "TaskCores" (283 : Nat) ({ cls := "TaskCores", name := "activateByTask", desc := "(LTaskCores$Task;I)V" } : Jvm.MethodName)) ∈ md_Ts := mw_2 225 rfl rfl
theorem tw_467 : (Jvm.Cond.instanceMethod ({ cls := "TaskCores", name := "activateByTask", desc := "(LTaskCores$Task;I)V" } : Jvm.MethodName)) ∈ md_Ts := mw_2 227 rfl rfl
theorem tw_468 : (Jvm.Cond.code ({ cls := "TaskCores", name := "activateByTask", desc := "(LTaskCores$Task;I)V" } : Jvm.MethodName) prog_1_method_31_code (4 : Nat) (Option.none : Option Jvm.ClassFile.FieldType)) ∈ md_Ts := mw_2 228 rfl rfl
theorem tw_469 : (Jvm.Cond.methodLink "TaskCores" (286 : Nat) ({ cls := "TaskCores", name := "chain", desc := "(LTaskCores$Task;I)V" } : Jvm.MethodName)) ∈ md_Ts := mw_2 229 rfl rfl
theorem tw_471 : (Jvm.Cond.instanceMethod ({ cls := "TaskCores", name := "chain", desc := "(LTaskCores$Task;I)V" } : Jvm.MethodName)) ∈ md_Ts := mw_2 231 rfl rfl
theorem tw_472 : (Jvm.Cond.code ({ cls := "TaskCores", name := "chain", desc := "(LTaskCores$Task;I)V" } : Jvm.MethodName) prog_1_method_32_code (4 : Nat) (Option.none : Option Jvm.ClassFile.FieldType)) ∈ md_Ts := mw_2 232 rfl rfl
theorem tw_473 : (Jvm.Cond.methodLink "TaskCores" (289 : Nat) ({ cls := "TaskCores", name := "waitFor", desc := "(LTaskCores$Task;I)V" } : Jvm.MethodName)) ∈ md_Ts := mw_2 233 rfl rfl
theorem tw_475 : (Jvm.Cond.instanceMethod ({ cls := "TaskCores", name := "waitFor", desc := "(LTaskCores$Task;I)V" } : Jvm.MethodName)) ∈ md_Ts := mw_2 235 rfl rfl
theorem tw_476 : (Jvm.Cond.code ({ cls := "TaskCores", name := "waitFor", desc := "(LTaskCores$Task;I)V" } : Jvm.MethodName) prog_1_method_33_code (3 : Nat) (Option.none : Option Jvm.ClassFile.FieldType)) ∈ md_Ts := mw_2 236 rfl rfl
theorem tw_477 : (Jvm.Cond.constant "TaskCores" (175 : Nat) (65536 : Int32)) ∈ md_Ts := mw_2 237 rfl rfl
theorem tw_478 : (Jvm.Cond.methodLink "TaskCores" (292 : Nat) ({ cls := "TaskCores", name := "setByTask", desc := "(LTaskCores$Task;II)V" } : Jvm.MethodName)) ∈ md_Ts := mw_2 238 rfl rfl
theorem tw_480 : (Jvm.Cond.instanceMethod ({ cls := "TaskCores", name := "setByTask", desc := "(LTaskCores$Task;II)V" } : Jvm.MethodName)) ∈ md_Ts := mw_3 0 rfl rfl
theorem tw_481 : (Jvm.Cond.code ({ cls := "TaskCores", name := "setByTask", desc := "(LTaskCores$Task;II)V" } : Jvm.MethodName) prog_1_method_34_code (5 : Nat) (Option.none : Option Jvm.ClassFile.FieldType)) ∈ md_Ts := mw_3 1 rfl rfl
theorem tw_482 : (Jvm.Cond.methodLink "TaskCores" (176 : Nat) ({ cls := "TaskCores$Task", name := "mayBeSet", desc := "()Z" } : Jvm.MethodName)) ∈ md_Ts := mw_3 2 rfl rfl
theorem tw_483 : (Jvm.Cond.instanceMethod ({ cls := "TaskCores$Task", name := "mayBeSet", desc := "()Z" } : Jvm.MethodName)) ∈ md_Ts := mw_3 3 rfl rfl
theorem tw_484 : (Jvm.Cond.selects "TaskCores$Task" ({ cls := "TaskCores$Task", name := "mayBeSet", desc := "()Z" } : Jvm.MethodName) ({ cls := "TaskCores$Task", name := "mayBeSet", desc := "()Z" } : Jvm.MethodName)) ∈ md_Ts := mw_3 4 rfl rfl
theorem tw_485 : (Jvm.Cond.code ({ cls := "TaskCores$Task", name := "mayBeSet", desc := "()Z" } : Jvm.MethodName) prog_9_method_3_code (1 : Nat) (Option.some Jvm.ClassFile.FieldType.boolean)) ∈ md_Ts := mw_3 5 rfl rfl
theorem tw_486 : (Jvm.Cond.methodLink "TaskCores" (180 : Nat) ({ cls := "TaskCores", name := "setEvents", desc := "(LTaskCores$Task;I)V" } : Jvm.MethodName)) ∈ md_Ts := mw_3 6 rfl rfl
theorem tw_488 : (Jvm.Cond.instanceMethod ({ cls := "TaskCores", name := "setEvents", desc := "(LTaskCores$Task;I)V" } : Jvm.MethodName)) ∈ md_Ts := mw_3 8 rfl rfl
theorem tw_489 : (Jvm.Cond.code ({ cls := "TaskCores", name := "setEvents", desc := "(LTaskCores$Task;I)V" } : Jvm.MethodName) prog_1_method_42_code (3 : Nat) (Option.none : Option Jvm.ClassFile.FieldType)) ∈ md_Ts := mw_3 9 rfl rfl
theorem tw_490 : (Jvm.Cond.methodLink "TaskCores" (296 : Nat) ({ cls := "TaskCores", name := "clearEvents", desc := "(LTaskCores$Task;I)V" } : Jvm.MethodName)) ∈ md_Ts := mw_3 10 rfl rfl
theorem tw_492 : (Jvm.Cond.instanceMethod ({ cls := "TaskCores", name := "clearEvents", desc := "(LTaskCores$Task;I)V" } : Jvm.MethodName)) ∈ md_Ts := mw_3 12 rfl rfl
theorem tw_493 : (Jvm.Cond.code ({ cls := "TaskCores", name := "clearEvents", desc := "(LTaskCores$Task;I)V" } : Jvm.MethodName) prog_1_method_35_code (3 : Nat) (Option.none : Option Jvm.ClassFile.FieldType)) ∈ md_Ts := mw_3 13 rfl rfl
theorem tw_494 : (Jvm.Cond.methodLink "TaskCores" (299 : Nat) ({ cls := "TaskCores", name := "getResource", desc := "(LTaskCores$Task;LTaskCores$Resource;)V" } : Jvm.MethodName)) ∈ md_Ts := mw_3 14 rfl rfl
theorem tw_496 : (Jvm.Cond.instanceMethod ({ cls := "TaskCores", name := "getResource", desc := "(LTaskCores$Task;LTaskCores$Resource;)V" } : Jvm.MethodName)) ∈ md_Ts := mw_3 16 rfl rfl
theorem tw_497 : (Jvm.Cond.code ({ cls := "TaskCores", name := "getResource", desc := "(LTaskCores$Task;LTaskCores$Resource;)V" } : Jvm.MethodName) prog_1_method_36_code (3 : Nat) (Option.none : Option Jvm.ClassFile.FieldType)) ∈ md_Ts := mw_3 17 rfl rfl
theorem tw_498 : (Jvm.Cond.methodLink "TaskCores" (303 : Nat) ({ cls := "TaskCores", name := "freeResource", desc := "(LTaskCores$Task;LTaskCores$Resource;)V" } : Jvm.MethodName)) ∈ md_Ts := mw_3 18 rfl rfl
theorem tw_500 : (Jvm.Cond.instanceMethod ({ cls := "TaskCores", name := "freeResource", desc := "(LTaskCores$Task;LTaskCores$Resource;)V" } : Jvm.MethodName)) ∈ md_Ts := mw_3 20 rfl rfl
theorem tw_501 : (Jvm.Cond.code ({ cls := "TaskCores", name := "freeResource", desc := "(LTaskCores$Task;LTaskCores$Resource;)V" } : Jvm.MethodName) prog_1_method_37_code (3 : Nat) (Option.none : Option Jvm.ClassFile.FieldType)) ∈ md_Ts := mw_3 21 rfl rfl
theorem tw_502 : (Jvm.Cond.methodLink "TaskCores" (306 : Nat) ({ cls := "TaskCores", name := "takeLock", desc := "(LTaskCores$Task;LTaskCores$Lock;)V" } : Jvm.MethodName)) ∈ md_Ts := mw_3 22 rfl rfl
theorem tw_504 : (Jvm.Cond.instanceMethod ({ cls := "TaskCores", name := "takeLock", desc := "(LTaskCores$Task;LTaskCores$Lock;)V" } : Jvm.MethodName)) ∈ md_Ts := mw_3 24 rfl rfl
theorem tw_505 : (Jvm.Cond.code ({ cls := "TaskCores", name := "takeLock", desc := "(LTaskCores$Task;LTaskCores$Lock;)V" } : Jvm.MethodName) prog_1_method_38_code (3 : Nat) (Option.none : Option Jvm.ClassFile.FieldType)) ∈ md_Ts := mw_3 25 rfl rfl
theorem tw_506 : (Jvm.Cond.methodLink "TaskCores" (310 : Nat) ({ cls := "TaskCores", name := "unlock", desc := "(LTaskCores$Task;LTaskCores$Lock;)V" } : Jvm.MethodName)) ∈ md_Ts := mw_3 26 rfl rfl
theorem tw_508 : (Jvm.Cond.instanceMethod ({ cls := "TaskCores", name := "unlock", desc := "(LTaskCores$Task;LTaskCores$Lock;)V" } : Jvm.MethodName)) ∈ md_Ts := mw_3 28 rfl rfl
theorem tw_509 : (Jvm.Cond.code ({ cls := "TaskCores", name := "unlock", desc := "(LTaskCores$Task;LTaskCores$Lock;)V" } : Jvm.MethodName) prog_1_method_39_code (3 : Nat) (Option.none : Option Jvm.ClassFile.FieldType)) ∈ md_Ts := mw_3 29 rfl rfl
theorem tw_510 : (Jvm.Cond.methodLink "TaskCores" (313 : Nat) ({ cls := "TaskCores", name := "putOff", desc := "(LTaskCores$Task;I)V" } : Jvm.MethodName)) ∈ md_Ts := mw_3 30 rfl rfl
theorem tw_512 : (Jvm.Cond.instanceMethod ({ cls := "TaskCores", name := "putOff", desc := "(LTaskCores$Task;I)V" } : Jvm.MethodName)) ∈ md_Ts := mw_3 32 rfl rfl
theorem tw_513 : (Jvm.Cond.code ({ cls := "TaskCores", name := "putOff", desc := "(LTaskCores$Task;I)V" } : Jvm.MethodName) prog_1_method_40_code (3 : Nat) (Option.none : Option Jvm.ClassFile.FieldType)) ∈ md_Ts := mw_3 33 rfl rfl
theorem tw_514 : (Jvm.Cond.methodLink "TaskCores" (316 : Nat) ({ cls := "TaskCores", name := "putOn", desc := "(LTaskCores$Task;)V" } : Jvm.MethodName)) ∈ md_Ts := mw_3 34 rfl rfl
theorem tw_516 : (Jvm.Cond.instanceMethod ({ cls := "TaskCores", name := "putOn", desc := "(LTaskCores$Task;)V" } : Jvm.MethodName)) ∈ md_Ts := mw_3 36 rfl rfl
theorem tw_517 : (Jvm.Cond.code ({ cls := "TaskCores", name := "putOn", desc := "(LTaskCores$Task;)V" } : Jvm.MethodName) prog_1_method_41_code (2 : Nat) (Option.none : Option Jvm.ClassFile.FieldType)) ∈ md_Ts := mw_3 37 rfl rfl
theorem tw_518 : (Jvm.Cond.methodLink "TaskCores" (150 : Nat) ({ cls := "TaskCores", name := "tellIfOffTooLong", desc := "()V" } : Jvm.MethodName)) ∈ md_Ts := mw_3 38 rfl rfl
theorem tw_520 : (Jvm.Cond.instanceMethod ({ cls := "TaskCores", name := "tellIfOffTooLong", desc := "()V" } : Jvm.MethodName)) ∈ md_Ts := mw_3 40 rfl rfl
theorem tw_521 : (Jvm.Cond.code ({ cls := "TaskCores", name := "tellIfOffTooLong", desc := "()V" } : Jvm.MethodName) prog_1_method_49_code (2 : Nat) (Option.none : Option Jvm.ClassFile.FieldType)) ∈ md_Ts := mw_3 41 rfl rfl
theorem tw_522 : (Jvm.Cond.methodLink "TaskCores" (157 : Nat) ({ cls := "TaskCores", name := "quietMicroseconds", desc := "(I)I" } : Jvm.MethodName)) ∈ md_Ts := mw_3 42 rfl rfl
theorem tw_524 : (Jvm.Cond.instanceMethod ({ cls := "TaskCores", name := "quietMicroseconds", desc := "(I)I" } : Jvm.MethodName)) ∈ md_Ts := mw_3 44 rfl rfl
theorem tw_525 : (Jvm.Cond.code ({ cls := "TaskCores", name := "quietMicroseconds", desc := "(I)I" } : Jvm.MethodName) prog_1_method_50_code (9 : Nat) (Option.some Jvm.ClassFile.FieldType.int)) ∈ md_Ts := mw_3 45 rfl rfl
theorem tw_526 : (Jvm.Cond.methodLink "TaskCores" (374 : Nat) ({ cls := "TaskCores$Interrupts", name := "nextChange", desc := "(I)I" } : Jvm.MethodName)) ∈ md_Ts := mw_3 46 rfl rfl
theorem tw_527 : (Jvm.Cond.instanceMethod ({ cls := "TaskCores$Interrupts", name := "nextChange", desc := "(I)I" } : Jvm.MethodName)) ∈ md_Ts := mw_3 47 rfl rfl
theorem tw_528 : (Jvm.Cond.selects "TaskCores$Interrupts" ({ cls := "TaskCores$Interrupts", name := "nextChange", desc := "(I)I" } : Jvm.MethodName) ({ cls := "TaskCores$Interrupts", name := "nextChange", desc := "(I)I" } : Jvm.MethodName)) ∈ md_Ts := mw_3 48 rfl rfl
theorem tw_529 : (Jvm.Cond.code ({ cls := "TaskCores$Interrupts", name := "nextChange", desc := "(I)I" } : Jvm.MethodName) prog_4_method_4_code (4 : Nat) (Option.some Jvm.ClassFile.FieldType.int)) ∈ md_Ts := mw_3 49 rfl rfl
theorem tw_530 : (Jvm.Cond.constant "TaskCores$Interrupts" (37 : Nat) (1000000 : Int32)) ∈ md_Ts := mw_3 50 rfl rfl
theorem tw_531 : (Jvm.Cond.methodLink "TaskCores$Interrupts" (38 : Nat) ({ cls := "java/lang/Math", name := "min", desc := "(II)I" } : Jvm.MethodName)) ∈ md_Ts := mw_3 51 rfl rfl
theorem tw_532 : (Jvm.Cond.static ({ cls := "java/lang/Math", name := "min", desc := "(II)I" } : Jvm.MethodName)) ∈ md_Ts := mw_3 52 rfl rfl
theorem tw_533 : (Jvm.Cond.code ({ cls := "java/lang/Math", name := "min", desc := "(II)I" } : Jvm.MethodName) prog_13_method_69_code (2 : Nat) (Option.some Jvm.ClassFile.FieldType.int)) ∈ md_Ts := mw_3 53 rfl rfl
theorem tw_534 : (Jvm.Cond.methodLink "TaskCores" (377 : Nat) ({ cls := "java/lang/Math", name := "min", desc := "(II)I" } : Jvm.MethodName)) ∈ md_Ts := mw_3 54 rfl rfl
theorem tw_535 : (Jvm.Cond.methodLink "TaskCores" (383 : Nat) ({ cls := "TaskCores$Task", name := "leftOfPart", desc := "()I" } : Jvm.MethodName)) ∈ md_Ts := mw_3 55 rfl rfl
theorem tw_536 : (Jvm.Cond.instanceMethod ({ cls := "TaskCores$Task", name := "leftOfPart", desc := "()I" } : Jvm.MethodName)) ∈ md_Ts := mw_3 56 rfl rfl
theorem tw_537 : (Jvm.Cond.selects "TaskCores$Task" ({ cls := "TaskCores$Task", name := "leftOfPart", desc := "()I" } : Jvm.MethodName) ({ cls := "TaskCores$Task", name := "leftOfPart", desc := "()I" } : Jvm.MethodName)) ∈ md_Ts := mw_3 57 rfl rfl
theorem tw_538 : (Jvm.Cond.code ({ cls := "TaskCores$Task", name := "leftOfPart", desc := "()I" } : Jvm.MethodName) prog_9_method_6_code (1 : Nat) (Option.some Jvm.ClassFile.FieldType.int)) ∈ md_Ts := mw_3 58 rfl rfl
theorem tw_539 : (Jvm.Cond.constant "TaskCores$Task" (84 : Nat) (1000000 : Int32)) ∈ md_Ts := mw_3 59 rfl rfl
theorem tw_540 : (Jvm.Cond.methodLink "TaskCores" (161 : Nat) ({ cls := "TaskCores", name := "passMicroseconds", desc := "(I)I" } : Jvm.MethodName)) ∈ md_Ts := mw_3 60 rfl rfl
theorem tw_542 : (Jvm.Cond.instanceMethod ({ cls := "TaskCores", name := "passMicroseconds", desc := "(I)I" } : Jvm.MethodName)) ∈ md_Ts := mw_3 62 rfl rfl
theorem tw_543 : (Jvm.Cond.code ({ cls := "TaskCores", name := "passMicroseconds", desc := "(I)I" } : Jvm.MethodName) prog_1_method_51_code (10 : Nat) (Option.some Jvm.ClassFile.FieldType.int)) ∈ md_Ts := mw_3 63 rfl rfl
theorem tw_544 : (Jvm.Cond.methodLink "TaskCores" (390 : Nat) ({ cls := "TaskCores$Task", name := "spend", desc := "(I)V" } : Jvm.MethodName)) ∈ md_Ts := mw_3 64 rfl rfl
theorem tw_545 : (Jvm.Cond.instanceMethod ({ cls := "TaskCores$Task", name := "spend", desc := "(I)V" } : Jvm.MethodName)) ∈ md_Ts := mw_3 65 rfl rfl
theorem tw_546 : (Jvm.Cond.selects "TaskCores$Task" ({ cls := "TaskCores$Task", name := "spend", desc := "(I)V" } : Jvm.MethodName) ({ cls := "TaskCores$Task", name := "spend", desc := "(I)V" } : Jvm.MethodName)) ∈ md_Ts := mw_3 66 rfl rfl
theorem tw_547 : (Jvm.Cond.code ({ cls := "TaskCores$Task", name := "spend", desc := "(I)V" } : Jvm.MethodName) prog_9_method_7_code (2 : Nat) (Option.none : Option Jvm.ClassFile.FieldType)) ∈ md_Ts := mw_3 67 rfl rfl
theorem tw_548 : (Jvm.Cond.methodLink "TaskCores" (396 : Nat) ({ cls := "TaskCores$Core", name := "noteWho", desc := "(II)V" } : Jvm.MethodName)) ∈ md_Ts := mw_3 68 rfl rfl
theorem tw_549 : (Jvm.Cond.instanceMethod ({ cls := "TaskCores$Core", name := "noteWho", desc := "(II)V" } : Jvm.MethodName)) ∈ md_Ts := mw_3 69 rfl rfl
theorem tw_550 : (Jvm.Cond.selects "TaskCores$Core" ({ cls := "TaskCores$Core", name := "noteWho", desc := "(II)V" } : Jvm.MethodName) ({ cls := "TaskCores$Core", name := "noteWho", desc := "(II)V" } : Jvm.MethodName)) ∈ md_Ts := mw_3 70 rfl rfl
theorem tw_551 : (Jvm.Cond.code ({ cls := "TaskCores$Core", name := "noteWho", desc := "(II)V" } : Jvm.MethodName) prog_2_method_3_code (3 : Nat) (Option.none : Option Jvm.ClassFile.FieldType)) ∈ md_Ts := mw_3 71 rfl rfl
theorem tw_552 : (Jvm.Cond.methodLink "TaskCores$Core" (40 : Nat) ({ cls := "TaskCores$Log", name := "add", desc := "(III)V" } : Jvm.MethodName)) ∈ md_Ts := mw_3 72 rfl rfl
theorem tw_553 : (Jvm.Cond.methodLink "TaskCores" (399 : Nat) ({ cls := "TaskCores$Interrupts", name := "serve", desc := "(LTaskCores$Interrupt;I)V" } : Jvm.MethodName)) ∈ md_Ts := mw_3 73 rfl rfl
theorem tw_554 : (Jvm.Cond.instanceMethod ({ cls := "TaskCores$Interrupts", name := "serve", desc := "(LTaskCores$Interrupt;I)V" } : Jvm.MethodName)) ∈ md_Ts := mw_3 74 rfl rfl
theorem tw_555 : (Jvm.Cond.selects "TaskCores$Interrupts" ({ cls := "TaskCores$Interrupts", name := "serve", desc := "(LTaskCores$Interrupt;I)V" } : Jvm.MethodName) ({ cls := "TaskCores$Interrupts", name := "serve", desc := "(LTaskCores$Interrupt;I)V" } : Jvm.MethodName)) ∈ md_Ts := mw_3 75 rfl rfl
theorem tw_556 : (Jvm.Cond.code ({ cls := "TaskCores$Interrupts", name := "serve", desc := "(LTaskCores$Interrupt;I)V" } : Jvm.MethodName) prog_4_method_5_code (4 : Nat) (Option.none : Option Jvm.ClassFile.FieldType)) ∈ md_Ts := mw_3 76 rfl rfl
theorem tw_557 : (Jvm.Cond.arrayClass Jvm.ClassFile.FieldType.long) ∈ md_Ts := mw_3 77 rfl rfl
theorem tw_558 : (Jvm.Cond.methodLink "TaskCoresLaw" (53 : Nat) ({ cls := "TaskCores", name := "now", desc := "()J" } : Jvm.MethodName)) ∈ md_Ts := mw_3 78 rfl rfl
theorem tw_559 : (Jvm.Cond.instanceMethod ({ cls := "TaskCores", name := "now", desc := "()J" } : Jvm.MethodName)) ∈ md_Ts := mw_3 79 rfl rfl
theorem tw_560 : (Jvm.Cond.selects "TaskCores" ({ cls := "TaskCores", name := "now", desc := "()J" } : Jvm.MethodName) ({ cls := "TaskCores", name := "now", desc := "()J" } : Jvm.MethodName)) ∈ md_Ts := mw_3 80 rfl rfl
theorem tw_561 : (Jvm.Cond.code ({ cls := "TaskCores", name := "now", desc := "()J" } : Jvm.MethodName) prog_1_method_8_code (1 : Nat) (Option.some Jvm.ClassFile.FieldType.long)) ∈ md_Ts := mw_3 81 rfl rfl
theorem tw_562 : (Jvm.Cond.methodLink "TaskCoresLaw" (58 : Nat) ({ cls := "TaskCores", name := "running", desc := "(IJ)I" } : Jvm.MethodName)) ∈ md_Ts := mw_3 82 rfl rfl
theorem tw_563 : (Jvm.Cond.instanceMethod ({ cls := "TaskCores", name := "running", desc := "(IJ)I" } : Jvm.MethodName)) ∈ md_Ts := mw_3 83 rfl rfl
theorem tw_564 : (Jvm.Cond.selects "TaskCores" ({ cls := "TaskCores", name := "running", desc := "(IJ)I" } : Jvm.MethodName) ({ cls := "TaskCores", name := "running", desc := "(IJ)I" } : Jvm.MethodName)) ∈ md_Ts := mw_3 84 rfl rfl
theorem tw_565 : (Jvm.Cond.code ({ cls := "TaskCores", name := "running", desc := "(IJ)I" } : Jvm.MethodName) prog_1_method_9_code (5 : Nat) (Option.some Jvm.ClassFile.FieldType.int)) ∈ md_Ts := mw_3 85 rfl rfl
theorem tw_566 : (Jvm.Cond.methodLink "TaskCores" (164 : Nat) ({ cls := "TaskCores$Core", name := "whoAt", desc := "(I)I" } : Jvm.MethodName)) ∈ md_Ts := mw_3 86 rfl rfl
theorem tw_567 : (Jvm.Cond.instanceMethod ({ cls := "TaskCores$Core", name := "whoAt", desc := "(I)I" } : Jvm.MethodName)) ∈ md_Ts := mw_3 87 rfl rfl
theorem tw_568 : (Jvm.Cond.selects "TaskCores$Core" ({ cls := "TaskCores$Core", name := "whoAt", desc := "(I)I" } : Jvm.MethodName) ({ cls := "TaskCores$Core", name := "whoAt", desc := "(I)I" } : Jvm.MethodName)) ∈ md_Ts := mw_3 88 rfl rfl
theorem tw_569 : (Jvm.Cond.code ({ cls := "TaskCores$Core", name := "whoAt", desc := "(I)I" } : Jvm.MethodName) prog_2_method_4_code (6 : Nat) (Option.some Jvm.ClassFile.FieldType.int)) ∈ md_Ts := mw_3 89 rfl rfl
theorem tw_570 : (Jvm.Cond.methodLink "TaskCores$Core" (47 : Nat) ({ cls := "TaskCores$Log", name := "answer", desc := "(II)I" } : Jvm.MethodName)) ∈ md_Ts := mw_3 90 rfl rfl
theorem tw_571 : (Jvm.Cond.instanceMethod ({ cls := "TaskCores$Log", name := "answer", desc := "(II)I" } : Jvm.MethodName)) ∈ md_Ts := mw_3 91 rfl rfl
theorem tw_572 : (Jvm.Cond.selects "TaskCores$Log" ({ cls := "TaskCores$Log", name := "answer", desc := "(II)I" } : Jvm.MethodName) ({ cls := "TaskCores$Log", name := "answer", desc := "(II)I" } : Jvm.MethodName)) ∈ md_Ts := mw_3 92 rfl rfl
theorem tw_573 : (Jvm.Cond.code ({ cls := "TaskCores$Log", name := "answer", desc := "(II)I" } : Jvm.MethodName) prog_6_method_3_code (4 : Nat) (Option.some Jvm.ClassFile.FieldType.int)) ∈ md_Ts := mw_3 93 rfl rfl
theorem tw_574 : (Jvm.Cond.constantLong "TaskCores$Log" (30 : Nat) (1048575 : Int64)) ∈ md_Ts := mw_3 94 rfl rfl
theorem tw_575 : (Jvm.Cond.methodLink "TaskCoresLaw" (62 : Nat) ({ cls := "TaskCores", name := "used", desc := "(I)J" } : Jvm.MethodName)) ∈ md_Ts := mw_3 95 rfl rfl
theorem tw_576 : (Jvm.Cond.instanceMethod ({ cls := "TaskCores", name := "used", desc := "(I)J" } : Jvm.MethodName)) ∈ md_Ts := mw_3 96 rfl rfl
theorem tw_577 : (Jvm.Cond.selects "TaskCores" ({ cls := "TaskCores", name := "used", desc := "(I)J" } : Jvm.MethodName) ({ cls := "TaskCores", name := "used", desc := "(I)J" } : Jvm.MethodName)) ∈ md_Ts := mw_3 97 rfl rfl
theorem tw_578 : (Jvm.Cond.code ({ cls := "TaskCores", name := "used", desc := "(I)J" } : Jvm.MethodName) prog_1_method_10_code (3 : Nat) (Option.some Jvm.ClassFile.FieldType.long)) ∈ md_Ts := mw_3 98 rfl rfl
theorem tw_579 : (Jvm.Cond.constantLong "TaskCores" (167 : Nat) (-1 : Int64)) ∈ md_Ts := mw_3 99 rfl rfl
theorem tw_580 : (Jvm.Cond.methodLink "TaskCoresLaw" (67 : Nat) ({ cls := "TaskCores", name := "state", desc := "(I)I" } : Jvm.MethodName)) ∈ md_Ts := mw_3 100 rfl rfl
theorem tw_581 : (Jvm.Cond.instanceMethod ({ cls := "TaskCores", name := "state", desc := "(I)I" } : Jvm.MethodName)) ∈ md_Ts := mw_3 101 rfl rfl
theorem tw_582 : (Jvm.Cond.selects "TaskCores" ({ cls := "TaskCores", name := "state", desc := "(I)I" } : Jvm.MethodName) ({ cls := "TaskCores", name := "state", desc := "(I)I" } : Jvm.MethodName)) ∈ md_Ts := mw_3 102 rfl rfl
theorem tw_583 : (Jvm.Cond.code ({ cls := "TaskCores", name := "state", desc := "(I)I" } : Jvm.MethodName) prog_1_method_11_code (3 : Nat) (Option.some Jvm.ClassFile.FieldType.int)) ∈ md_Ts := mw_3 103 rfl rfl
theorem tw_584 : (Jvm.Cond.methodLink "TaskCoresLaw" (72 : Nat) ({ cls := "TaskCores", name := "event", desc := "(II)I" } : Jvm.MethodName)) ∈ md_Ts := mw_3 104 rfl rfl
theorem tw_585 : (Jvm.Cond.instanceMethod ({ cls := "TaskCores", name := "event", desc := "(II)I" } : Jvm.MethodName)) ∈ md_Ts := mw_3 105 rfl rfl
theorem tw_586 : (Jvm.Cond.selects "TaskCores" ({ cls := "TaskCores", name := "event", desc := "(II)I" } : Jvm.MethodName) ({ cls := "TaskCores", name := "event", desc := "(II)I" } : Jvm.MethodName)) ∈ md_Ts := mw_3 106 rfl rfl
theorem tw_587 : (Jvm.Cond.code ({ cls := "TaskCores", name := "event", desc := "(II)I" } : Jvm.MethodName) prog_1_method_12_code (4 : Nat) (Option.some Jvm.ClassFile.FieldType.int)) ∈ md_Ts := mw_3 107 rfl rfl
theorem tw_588 : (Jvm.Cond.methodLink "TaskCoresLaw" (77 : Nat) ({ cls := "TaskCores", name := "events", desc := "(I)I" } : Jvm.MethodName)) ∈ md_Ts := mw_3 108 rfl rfl
theorem tw_589 : (Jvm.Cond.instanceMethod ({ cls := "TaskCores", name := "events", desc := "(I)I" } : Jvm.MethodName)) ∈ md_Ts := mw_3 109 rfl rfl
theorem tw_590 : (Jvm.Cond.selects "TaskCores" ({ cls := "TaskCores", name := "events", desc := "(I)I" } : Jvm.MethodName) ({ cls := "TaskCores", name := "events", desc := "(I)I" } : Jvm.MethodName)) ∈ md_Ts := mw_3 110 rfl rfl
theorem tw_591 : (Jvm.Cond.code ({ cls := "TaskCores", name := "events", desc := "(I)I" } : Jvm.MethodName) prog_1_method_13_code (3 : Nat) (Option.some Jvm.ClassFile.FieldType.int)) ∈ md_Ts := mw_3 111 rfl rfl
theorem tw_592 : (Jvm.Cond.methodLink "TaskCoresLaw" (81 : Nat) ({ cls := "TaskCores", name := "code", desc := "(II)I" } : Jvm.MethodName)) ∈ md_Ts := mw_3 112 rfl rfl
theorem tw_593 : (Jvm.Cond.instanceMethod ({ cls := "TaskCores", name := "code", desc := "(II)I" } : Jvm.MethodName)) ∈ md_Ts := mw_3 113 rfl rfl
theorem tw_594 : (Jvm.Cond.selects "TaskCores" ({ cls := "TaskCores", name := "code", desc := "(II)I" } : Jvm.MethodName) ({ cls := "TaskCores", name := "code", desc := "(II)I" } : Jvm.MethodName)) ∈ md_Ts := mw_3 114 rfl rfl
theorem tw_595 : (Jvm.Cond.code ({ cls := "TaskCores", name := "code", desc := "(II)I" } : Jvm.MethodName) prog_1_method_14_code (3 : Nat) (Option.some Jvm.ClassFile.FieldType.int)) ∈ md_Ts := mw_3 115 rfl rfl
theorem tw_596 : (Jvm.Cond.methodLink "TaskCores" (186 : Nat) ({ cls := "TaskCores$Log", name := "answer", desc := "(II)I" } : Jvm.MethodName)) ∈ md_Ts := mw_3 116 rfl rfl
theorem tw_597 : (Jvm.Cond.methodLink "TaskCoresLaw" (85 : Nat) ({ cls := "TaskCores", name := "order", desc := "(II)I" } : Jvm.MethodName)) ∈ md_Ts := mw_3 117 rfl rfl
theorem tw_598 : (Jvm.Cond.instanceMethod ({ cls := "TaskCores", name := "order", desc := "(II)I" } : Jvm.MethodName)) ∈ md_Ts := mw_3 118 rfl rfl
theorem tw_599 : (Jvm.Cond.selects "TaskCores" ({ cls := "TaskCores", name := "order", desc := "(II)I" } : Jvm.MethodName) ({ cls := "TaskCores", name := "order", desc := "(II)I" } : Jvm.MethodName)) ∈ md_Ts := mw_3 119 rfl rfl
theorem tw_600 : (Jvm.Cond.code ({ cls := "TaskCores", name := "order", desc := "(II)I" } : Jvm.MethodName) prog_1_method_15_code (3 : Nat) (Option.some Jvm.ClassFile.FieldType.int)) ∈ md_Ts := mw_3 120 rfl rfl
theorem tw_601 : (Jvm.Cond.methodLink "TaskCoresLaw" (89 : Nat) ({ cls := "TaskCores", name := "spin", desc := "(II)I" } : Jvm.MethodName)) ∈ md_Ts := mw_3 121 rfl rfl
theorem tw_602 : (Jvm.Cond.instanceMethod ({ cls := "TaskCores", name := "spin", desc := "(II)I" } : Jvm.MethodName)) ∈ md_Ts := mw_3 122 rfl rfl
theorem tw_603 : (Jvm.Cond.selects "TaskCores" ({ cls := "TaskCores", name := "spin", desc := "(II)I" } : Jvm.MethodName) ({ cls := "TaskCores", name := "spin", desc := "(II)I" } : Jvm.MethodName)) ∈ md_Ts := mw_3 123 rfl rfl
theorem tw_604 : (Jvm.Cond.code ({ cls := "TaskCores", name := "spin", desc := "(II)I" } : Jvm.MethodName) prog_1_method_16_code (6 : Nat) (Option.some Jvm.ClassFile.FieldType.int)) ∈ md_Ts := mw_3 124 rfl rfl
theorem tw_605 : (Jvm.Cond.methodLink "TaskCores" (204 : Nat) ({ cls := "TaskCores$Lock", name := "firstInQueueOf", desc := "(LTaskCores$Core;)LTaskCores$Task;" } : Jvm.MethodName)) ∈ md_Ts := mw_3 125 rfl rfl
theorem tw_606 : (Jvm.Cond.instanceMethod ({ cls := "TaskCores$Lock", name := "firstInQueueOf", desc := "(LTaskCores$Core;)LTaskCores$Task;" } : Jvm.MethodName)) ∈ md_Ts := mw_3 126 rfl rfl
theorem tw_607 : (Jvm.Cond.selects "TaskCores$Lock" ({ cls := "TaskCores$Lock", name := "firstInQueueOf", desc := "(LTaskCores$Core;)LTaskCores$Task;" } : Jvm.MethodName) ({ cls := "TaskCores$Lock", name := "firstInQueueOf", desc := "(LTaskCores$Core;)LTaskCores$Task;" } : Jvm.MethodName)) ∈ md_Ts := mw_3 127 rfl rfl
theorem tw_608 : (Jvm.Cond.code ({ cls := "TaskCores$Lock", name := "firstInQueueOf", desc := "(LTaskCores$Core;)LTaskCores$Task;" } : Jvm.MethodName) prog_5_method_3_code (3 : Nat) (Option.some (Jvm.ClassFile.FieldType.object "TaskCores$Task"))) ∈ md_Ts := mw_3 128 rfl rfl
theorem tw_609 : (Jvm.Cond.methodLink "TaskCoresLaw" (93 : Nat) ({ cls := "TaskCores", name := "holder", desc := "(I)I" } : Jvm.MethodName)) ∈ md_Ts := mw_3 129 rfl rfl
theorem tw_610 : (Jvm.Cond.instanceMethod ({ cls := "TaskCores", name := "holder", desc := "(I)I" } : Jvm.MethodName)) ∈ md_Ts := mw_3 130 rfl rfl
theorem tw_611 : (Jvm.Cond.selects "TaskCores" ({ cls := "TaskCores", name := "holder", desc := "(I)I" } : Jvm.MethodName) ({ cls := "TaskCores", name := "holder", desc := "(I)I" } : Jvm.MethodName)) ∈ md_Ts := mw_3 131 rfl rfl
theorem tw_612 : (Jvm.Cond.code ({ cls := "TaskCores", name := "holder", desc := "(I)I" } : Jvm.MethodName) prog_1_method_17_code (3 : Nat) (Option.some Jvm.ClassFile.FieldType.int)) ∈ md_Ts := mw_3 132 rfl rfl
theorem tw_613 : (Jvm.Cond.methodLink "TaskCoresLaw" (9 : Nat) ({ cls := "TaskCoresLaw", name := "cell", desc := "([II)I" } : Jvm.MethodName)) ∈ md_Ts := mw_3 133 rfl rfl
theorem tw_614 : (Jvm.Cond.static ({ cls := "TaskCoresLaw", name := "cell", desc := "([II)I" } : Jvm.MethodName)) ∈ md_Ts := mw_3 134 rfl rfl
theorem tw_615 : (Jvm.Cond.code ({ cls := "TaskCoresLaw", name := "cell", desc := "([II)I" } : Jvm.MethodName) method_2_code (2 : Nat) (Option.some Jvm.ClassFile.FieldType.int)) ∈ md_Ts := mw_3 135 rfl rfl
theorem tw_616 : (Jvm.Cond.classLink "TaskCoresLaw" (18 : Nat) "TaskCoresModel") ∈ md_Ts := mw_3 136 rfl rfl
theorem tw_617 : (Jvm.Cond.instantiable "TaskCoresModel" (45 : Nat)) ∈ md_Ts := mw_3 137 rfl rfl
theorem tw_618 : (Jvm.Cond.methodLink "TaskCoresLaw" (20 : Nat) ({ cls := "TaskCoresModel", name := "<init>", desc := "(I)V" } : Jvm.MethodName)) ∈ md_Ts := mw_3 138 rfl rfl
theorem tw_619 : (Jvm.Cond.instanceMethod ({ cls := "TaskCoresModel", name := "<init>", desc := "(I)V" } : Jvm.MethodName)) ∈ md_Ts := mw_3 139 rfl rfl
theorem tw_620 : (Jvm.Cond.code ({ cls := "TaskCoresModel", name := "<init>", desc := "(I)V" } : Jvm.MethodName) prog_12_method_1_code (2 : Nat) (Option.none : Option Jvm.ClassFile.FieldType)) ∈ md_Ts := mw_3 140 rfl rfl
theorem tw_621 : (Jvm.Cond.methodLink "TaskCoresModel" (1 : Nat) ({ cls := "java/lang/Object", name := "<init>", desc := "()V" } : Jvm.MethodName)) ∈ md_Ts := mw_3 141 rfl rfl
theorem tw_622 : (Jvm.Cond.constant "TaskCoresModel" (108 : Nat) (400000 : Int32)) ∈ md_Ts := mw_3 142 rfl rfl
theorem tw_623 : (Jvm.Cond.fieldLink "TaskCoresModel" (113 : Nat) "TaskCoresModel" "cores" "I") ∈ md_Ts := mw_3 143 rfl rfl
theorem tw_624 : (Jvm.Cond.fieldLink "TaskCoresModel" (117 : Nat) "TaskCoresModel" "tasks" "I") ∈ md_Ts := mw_3 144 rfl rfl
theorem tw_625 : (Jvm.Cond.fieldLink "TaskCoresModel" (7 : Nat) "TaskCoresModel" "rank" "[I") ∈ md_Ts := mw_3 145 rfl rfl
theorem tw_626 : (Jvm.Cond.fieldLink "TaskCoresModel" (13 : Nat) "TaskCoresModel" "core" "[I") ∈ md_Ts := mw_3 146 rfl rfl
theorem tw_627 : (Jvm.Cond.fieldLink "TaskCoresModel" (16 : Nat) "TaskCoresModel" "bound" "[I") ∈ md_Ts := mw_3 147 rfl rfl
theorem tw_628 : (Jvm.Cond.fieldLink "TaskCoresModel" (19 : Nat) "TaskCoresModel" "extended" "[Z") ∈ md_Ts := mw_3 148 rfl rfl
theorem tw_629 : (Jvm.Cond.fieldLink "TaskCoresModel" (23 : Nat) "TaskCoresModel" "full" "[Z") ∈ md_Ts := mw_3 149 rfl rfl
theorem tw_630 : (Jvm.Cond.fieldLink "TaskCoresModel" (148 : Nat) "TaskCoresModel" "parts" "I") ∈ md_Ts := mw_3 150 rfl rfl
theorem tw_631 : (Jvm.Cond.fieldLink "TaskCoresModel" (26 : Nat) "TaskCoresModel" "partOf" "[I") ∈ md_Ts := mw_3 151 rfl rfl
theorem tw_632 : (Jvm.Cond.fieldLink "TaskCoresModel" (29 : Nat) "TaskCoresModel" "partKind" "[I") ∈ md_Ts := mw_3 152 rfl rfl
theorem tw_633 : (Jvm.Cond.fieldLink "TaskCoresModel" (32 : Nat) "TaskCoresModel" "partV" "[J") ∈ md_Ts := mw_3 153 rfl rfl
theorem tw_634 : (Jvm.Cond.fieldLink "TaskCoresModel" (36 : Nat) "TaskCoresModel" "state" "[I") ∈ md_Ts := mw_3 154 rfl rfl
theorem tw_635 : (Jvm.Cond.fieldLink "TaskCoresModel" (39 : Nat) "TaskCoresModel" "turn" "[J") ∈ md_Ts := mw_3 155 rfl rfl
theorem tw_636 : (Jvm.Cond.fieldLink "TaskCoresModel" (42 : Nat) "TaskCoresModel" "wanted" "[I") ∈ md_Ts := mw_3 156 rfl rfl
theorem tw_637 : (Jvm.Cond.fieldLink "TaskCoresModel" (45 : Nat) "TaskCoresModel" "next" "[I") ∈ md_Ts := mw_3 157 rfl rfl
theorem tw_638 : (Jvm.Cond.fieldLink "TaskCoresModel" (48 : Nat) "TaskCoresModel" "left" "[J") ∈ md_Ts := mw_3 158 rfl rfl
theorem tw_639 : (Jvm.Cond.fieldLink "TaskCoresModel" (51 : Nat) "TaskCoresModel" "starts" "[Z") ∈ md_Ts := mw_3 159 rfl rfl
theorem tw_640 : (Jvm.Cond.fieldLink "TaskCoresModel" (54 : Nat) "TaskCoresModel" "events" "[I") ∈ md_Ts := mw_3 160 rfl rfl
theorem tw_641 : (Jvm.Cond.fieldLink "TaskCoresModel" (57 : Nat) "TaskCoresModel" "awaited" "[I") ∈ md_Ts := mw_3 161 rfl rfl
theorem tw_642 : (Jvm.Cond.fieldLink "TaskCoresModel" (60 : Nat) "TaskCoresModel" "yields" "[Z") ∈ md_Ts := mw_3 162 rfl rfl
theorem tw_643 : (Jvm.Cond.fieldLink "TaskCoresModel" (63 : Nat) "TaskCoresModel" "used" "[J") ∈ md_Ts := mw_3 163 rfl rfl
theorem tw_644 : (Jvm.Cond.fieldLink "TaskCoresModel" (162 : Nat) "TaskCoresModel" "turns" "J") ∈ md_Ts := mw_3 164 rfl rfl
theorem tw_645 : (Jvm.Cond.fieldLink "TaskCoresModel" (66 : Nat) "TaskCoresModel" "holder" "[I") ∈ md_Ts := mw_3 165 rfl rfl
theorem tw_646 : (Jvm.Cond.fieldLink "TaskCoresModel" (69 : Nat) "TaskCoresModel" "gotAt" "[J") ∈ md_Ts := mw_3 166 rfl rfl
theorem tw_647 : (Jvm.Cond.fieldLink "TaskCoresModel" (72 : Nat) "TaskCoresModel" "ceiling" "[I") ∈ md_Ts := mw_3 167 rfl rfl
theorem tw_648 : (Jvm.Cond.fieldLink "TaskCoresModel" (75 : Nat) "TaskCoresModel" "owner" "[I") ∈ md_Ts := mw_3 168 rfl rfl
theorem tw_649 : (Jvm.Cond.fieldLink "TaskCoresModel" (78 : Nat) "TaskCoresModel" "spins" "[I") ∈ md_Ts := mw_3 169 rfl rfl
theorem tw_650 : (Jvm.Cond.fieldLink "TaskCoresModel" (81 : Nat) "TaskCoresModel" "spinsSince" "[J") ∈ md_Ts := mw_3 170 rfl rfl
theorem tw_651 : (Jvm.Cond.fieldLink "TaskCoresModel" (194 : Nat) "TaskCoresModel" "orders" "J") ∈ md_Ts := mw_3 171 rfl rfl
theorem tw_652 : (Jvm.Cond.fieldLink "TaskCoresModel" (176 : Nat) "TaskCoresModel" "offBy" "I") ∈ md_Ts := mw_3 172 rfl rfl
theorem tw_653 : (Jvm.Cond.fieldLink "TaskCoresModel" (202 : Nat) "TaskCoresModel" "offEnd" "J") ∈ md_Ts := mw_3 173 rfl rfl
theorem tw_654 : (Jvm.Cond.fieldLink "TaskCoresModel" (205 : Nat) "TaskCoresModel" "offTold" "Z") ∈ md_Ts := mw_3 174 rfl rfl
theorem tw_655 : (Jvm.Cond.fieldLink "TaskCoresModel" (151 : Nat) "TaskCoresModel" "alarms" "I") ∈ md_Ts := mw_3 175 rfl rfl
theorem tw_656 : (Jvm.Cond.fieldLink "TaskCoresModel" (84 : Nat) "TaskCoresModel" "alarmTask" "[I") ∈ md_Ts := mw_3 176 rfl rfl
theorem tw_657 : (Jvm.Cond.fieldLink "TaskCoresModel" (87 : Nat) "TaskCoresModel" "alarmAt" "[J") ∈ md_Ts := mw_3 177 rfl rfl
theorem tw_658 : (Jvm.Cond.fieldLink "TaskCoresModel" (156 : Nat) "TaskCoresModel" "interrupts" "I") ∈ md_Ts := mw_3 178 rfl rfl
theorem tw_659 : (Jvm.Cond.fieldLink "TaskCoresModel" (90 : Nat) "TaskCoresModel" "level" "[I") ∈ md_Ts := mw_3 179 rfl rfl
theorem tw_660 : (Jvm.Cond.fieldLink "TaskCoresModel" (93 : Nat) "TaskCoresModel" "comes" "[J") ∈ md_Ts := mw_3 180 rfl rfl
theorem tw_661 : (Jvm.Cond.fieldLink "TaskCoresModel" (96 : Nat) "TaskCoresModel" "rest" "[J") ∈ md_Ts := mw_3 181 rfl rfl
theorem tw_662 : (Jvm.Cond.fieldLink "TaskCoresModel" (159 : Nat) "TaskCoresModel" "codes" "I") ∈ md_Ts := mw_3 182 rfl rfl
theorem tw_663 : (Jvm.Cond.fieldLink "TaskCoresModel" (99 : Nat) "TaskCoresModel" "codeKind" "[I") ∈ md_Ts := mw_3 183 rfl rfl
theorem tw_664 : (Jvm.Cond.fieldLink "TaskCoresModel" (102 : Nat) "TaskCoresModel" "codeTask" "[I") ∈ md_Ts := mw_3 184 rfl rfl
theorem tw_665 : (Jvm.Cond.fieldLink "TaskCoresModel" (105 : Nat) "TaskCoresModel" "codeAt" "[J") ∈ md_Ts := mw_3 185 rfl rfl
theorem tw_666 : (Jvm.Cond.fieldLink "TaskCoresModel" (120 : Nat) "TaskCoresModel" "now" "J") ∈ md_Ts := mw_3 186 rfl rfl
theorem tw_667 : (Jvm.Cond.fieldLink "TaskCoresModel" (109 : Nat) "TaskCoresModel" "who" "[S") ∈ md_Ts := mw_3 187 rfl rfl
theorem tw_759 : (Jvm.Cond.arrayClass Jvm.ClassFile.FieldType.int) ∈ md_Ts := mw_4 39 rfl rfl
theorem tw_760 : (Jvm.Cond.arrayClass Jvm.ClassFile.FieldType.boolean) ∈ md_Ts := mw_4 40 rfl rfl
theorem tw_761 : (Jvm.Cond.arrayClass Jvm.ClassFile.FieldType.short) ∈ md_Ts := mw_4 41 rfl rfl
theorem tw_762 : (Jvm.Cond.methodLink "TaskCoresLaw" (25 : Nat) ({ cls := "TaskCoresModel", name := "task", desc := "(IIIZ)I" } : Jvm.MethodName)) ∈ md_Ts := mw_4 42 rfl rfl
theorem tw_763 : (Jvm.Cond.instanceMethod ({ cls := "TaskCoresModel", name := "task", desc := "(IIIZ)I" } : Jvm.MethodName)) ∈ md_Ts := mw_4 43 rfl rfl
theorem tw_764 : (Jvm.Cond.selects "TaskCoresModel" ({ cls := "TaskCoresModel", name := "task", desc := "(IIIZ)I" } : Jvm.MethodName) ({ cls := "TaskCoresModel", name := "task", desc := "(IIIZ)I" } : Jvm.MethodName)) ∈ md_Ts := mw_4 44 rfl rfl
theorem tw_765 : (Jvm.Cond.code ({ cls := "TaskCoresModel", name := "task", desc := "(IIIZ)I" } : Jvm.MethodName) prog_12_method_3_code (5 : Nat) (Option.some Jvm.ClassFile.FieldType.int)) ∈ md_Ts := mw_4 45 rfl rfl
theorem tw_766 : (Jvm.Cond.methodLink "TaskCoresLaw" (32 : Nat) ({ cls := "TaskCoresModel", name := "part", desc := "(IIJ)I" } : Jvm.MethodName)) ∈ md_Ts := mw_4 46 rfl rfl
theorem tw_767 : (Jvm.Cond.instanceMethod ({ cls := "TaskCoresModel", name := "part", desc := "(IIJ)I" } : Jvm.MethodName)) ∈ md_Ts := mw_4 47 rfl rfl
theorem tw_768 : (Jvm.Cond.selects "TaskCoresModel" ({ cls := "TaskCoresModel", name := "part", desc := "(IIJ)I" } : Jvm.MethodName) ({ cls := "TaskCoresModel", name := "part", desc := "(IIJ)I" } : Jvm.MethodName)) ∈ md_Ts := mw_4 48 rfl rfl
theorem tw_769 : (Jvm.Cond.code ({ cls := "TaskCoresModel", name := "part", desc := "(IIJ)I" } : Jvm.MethodName) prog_12_method_5_code (7 : Nat) (Option.some Jvm.ClassFile.FieldType.int)) ∈ md_Ts := mw_4 49 rfl rfl
theorem tw_770 : (Jvm.Cond.methodLink "TaskCoresModel" (140 : Nat) ({ cls := "TaskCoresModel", name := "no", desc := "(I)Z" } : Jvm.MethodName)) ∈ md_Ts := mw_4 50 rfl rfl
theorem tw_772 : (Jvm.Cond.instanceMethod ({ cls := "TaskCoresModel", name := "no", desc := "(I)Z" } : Jvm.MethodName)) ∈ md_Ts := mw_4 52 rfl rfl
theorem tw_773 : (Jvm.Cond.code ({ cls := "TaskCoresModel", name := "no", desc := "(I)Z" } : Jvm.MethodName) prog_12_method_2_code (2 : Nat) (Option.some Jvm.ClassFile.FieldType.boolean)) ∈ md_Ts := mw_4 53 rfl rfl
theorem tw_774 : (Jvm.Cond.methodLink "TaskCoresModel" (144 : Nat) ({ cls := "TaskCoresModel", name := "good", desc := "(IJ)Z" } : Jvm.MethodName)) ∈ md_Ts := mw_4 54 rfl rfl
theorem tw_775 : (Jvm.Cond.static ({ cls := "TaskCoresModel", name := "good", desc := "(IJ)Z" } : Jvm.MethodName)) ∈ md_Ts := mw_4 55 rfl rfl
theorem tw_776 : (Jvm.Cond.code ({ cls := "TaskCoresModel", name := "good", desc := "(IJ)Z" } : Jvm.MethodName) prog_12_method_4_code (3 : Nat) (Option.some Jvm.ClassFile.FieldType.boolean)) ∈ md_Ts := mw_4 56 rfl rfl
theorem tw_777 : (Jvm.Cond.constantLong "TaskCoresModel" (124 : Nat) (50000 : Int64)) ∈ md_Ts := mw_4 57 rfl rfl
theorem tw_778 : (Jvm.Cond.constantLong "TaskCoresModel" (126 : Nat) (100 : Int64)) ∈ md_Ts := mw_4 58 rfl rfl
theorem tw_779 : (Jvm.Cond.constantLong "TaskCoresModel" (128 : Nat) (65535 : Int64)) ∈ md_Ts := mw_4 59 rfl rfl
theorem tw_780 : (Jvm.Cond.constantLong "TaskCoresModel" (130 : Nat) (65537 : Int64)) ∈ md_Ts := mw_4 60 rfl rfl
theorem tw_781 : (Jvm.Cond.constantLong "TaskCoresModel" (132 : Nat) (6619135 : Int64)) ∈ md_Ts := mw_4 61 rfl rfl
theorem tw_782 : (Jvm.Cond.constantLong "TaskCoresModel" (134 : Nat) (65536 : Int64)) ∈ md_Ts := mw_4 62 rfl rfl
theorem tw_783 : (Jvm.Cond.constantLong "TaskCoresModel" (136 : Nat) (32 : Int64)) ∈ md_Ts := mw_4 63 rfl rfl
theorem tw_784 : (Jvm.Cond.constantLong "TaskCoresModel" (138 : Nat) (16 : Int64)) ∈ md_Ts := mw_4 64 rfl rfl
theorem tw_785 : (Jvm.Cond.methodLink "TaskCoresLaw" (37 : Nat) ({ cls := "TaskCoresModel", name := "manner", desc := "(IZ)I" } : Jvm.MethodName)) ∈ md_Ts := mw_4 65 rfl rfl
theorem tw_786 : (Jvm.Cond.instanceMethod ({ cls := "TaskCoresModel", name := "manner", desc := "(IZ)I" } : Jvm.MethodName)) ∈ md_Ts := mw_4 66 rfl rfl
theorem tw_787 : (Jvm.Cond.selects "TaskCoresModel" ({ cls := "TaskCoresModel", name := "manner", desc := "(IZ)I" } : Jvm.MethodName) ({ cls := "TaskCoresModel", name := "manner", desc := "(IZ)I" } : Jvm.MethodName)) ∈ md_Ts := mw_4 67 rfl rfl
theorem tw_788 : (Jvm.Cond.code ({ cls := "TaskCoresModel", name := "manner", desc := "(IZ)I" } : Jvm.MethodName) prog_12_method_6_code (3 : Nat) (Option.some Jvm.ClassFile.FieldType.int)) ∈ md_Ts := mw_4 68 rfl rfl
theorem tw_789 : (Jvm.Cond.methodLink "TaskCoresLaw" (42 : Nat) ({ cls := "TaskCoresModel", name := "activate", desc := "(IJ)I" } : Jvm.MethodName)) ∈ md_Ts := mw_4 69 rfl rfl
theorem tw_790 : (Jvm.Cond.instanceMethod ({ cls := "TaskCoresModel", name := "activate", desc := "(IJ)I" } : Jvm.MethodName)) ∈ md_Ts := mw_4 70 rfl rfl
theorem tw_791 : (Jvm.Cond.selects "TaskCoresModel" ({ cls := "TaskCoresModel", name := "activate", desc := "(IJ)I" } : Jvm.MethodName) ({ cls := "TaskCoresModel", name := "activate", desc := "(IJ)I" } : Jvm.MethodName)) ∈ md_Ts := mw_4 71 rfl rfl
theorem tw_792 : (Jvm.Cond.code ({ cls := "TaskCoresModel", name := "activate", desc := "(IJ)I" } : Jvm.MethodName) prog_12_method_7_code (4 : Nat) (Option.some Jvm.ClassFile.FieldType.int)) ∈ md_Ts := mw_4 72 rfl rfl
theorem tw_793 : (Jvm.Cond.methodLink "TaskCoresLaw" (47 : Nat) ({ cls := "TaskCoresModel", name := "interrupt", desc := "(IJJ)I" } : Jvm.MethodName)) ∈ md_Ts := mw_4 73 rfl rfl
theorem tw_794 : (Jvm.Cond.instanceMethod ({ cls := "TaskCoresModel", name := "interrupt", desc := "(IJJ)I" } : Jvm.MethodName)) ∈ md_Ts := mw_4 74 rfl rfl
theorem tw_795 : (Jvm.Cond.selects "TaskCoresModel" ({ cls := "TaskCoresModel", name := "interrupt", desc := "(IJJ)I" } : Jvm.MethodName) ({ cls := "TaskCoresModel", name := "interrupt", desc := "(IJJ)I" } : Jvm.MethodName)) ∈ md_Ts := mw_4 75 rfl rfl
theorem tw_796 : (Jvm.Cond.code ({ cls := "TaskCoresModel", name := "interrupt", desc := "(IJJ)I" } : Jvm.MethodName) prog_12_method_8_code (6 : Nat) (Option.some Jvm.ClassFile.FieldType.int)) ∈ md_Ts := mw_4 76 rfl rfl
theorem tw_797 : (Jvm.Cond.constantLong "TaskCoresModel" (154 : Nat) (10000 : Int64)) ∈ md_Ts := mw_4 77 rfl rfl
theorem tw_798 : (Jvm.Cond.methodLink "TaskCoresLaw" (52 : Nat) ({ cls := "TaskCoresModel", name := "run", desc := "(J)I" } : Jvm.MethodName)) ∈ md_Ts := mw_4 78 rfl rfl
theorem tw_799 : (Jvm.Cond.instanceMethod ({ cls := "TaskCoresModel", name := "run", desc := "(J)I" } : Jvm.MethodName)) ∈ md_Ts := mw_4 79 rfl rfl
theorem tw_800 : (Jvm.Cond.selects "TaskCoresModel" ({ cls := "TaskCoresModel", name := "run", desc := "(J)I" } : Jvm.MethodName) ({ cls := "TaskCoresModel", name := "run", desc := "(J)I" } : Jvm.MethodName)) ∈ md_Ts := mw_4 80 rfl rfl
theorem tw_801 : (Jvm.Cond.code ({ cls := "TaskCoresModel", name := "run", desc := "(J)I" } : Jvm.MethodName) prog_12_method_28_code (6 : Nat) (Option.some Jvm.ClassFile.FieldType.int)) ∈ md_Ts := mw_4 81 rfl rfl
theorem tw_802 : (Jvm.Cond.methodLink "TaskCoresModel" (239 : Nat) ({ cls := "TaskCoresModel", name := "findCeilings", desc := "()V" } : Jvm.MethodName)) ∈ md_Ts := mw_4 82 rfl rfl
theorem tw_804 : (Jvm.Cond.instanceMethod ({ cls := "TaskCoresModel", name := "findCeilings", desc := "()V" } : Jvm.MethodName)) ∈ md_Ts := mw_4 84 rfl rfl
theorem tw_805 : (Jvm.Cond.code ({ cls := "TaskCoresModel", name := "findCeilings", desc := "()V" } : Jvm.MethodName) prog_12_method_21_code (3 : Nat) (Option.none : Option Jvm.ClassFile.FieldType)) ∈ md_Ts := mw_4 85 rfl rfl
theorem tw_806 : (Jvm.Cond.methodLink "TaskCoresModel" (242 : Nat) ({ cls := "TaskCoresModel", name := "microsecond", desc := "()I" } : Jvm.MethodName)) ∈ md_Ts := mw_4 86 rfl rfl
theorem tw_808 : (Jvm.Cond.instanceMethod ({ cls := "TaskCoresModel", name := "microsecond", desc := "()I" } : Jvm.MethodName)) ∈ md_Ts := mw_4 88 rfl rfl
theorem tw_809 : (Jvm.Cond.code ({ cls := "TaskCoresModel", name := "microsecond", desc := "()I" } : Jvm.MethodName) prog_12_method_27_code (8 : Nat) (Option.some Jvm.ClassFile.FieldType.int)) ∈ md_Ts := mw_4 89 rfl rfl
theorem tw_810 : (Jvm.Cond.methodLink "TaskCoresModel" (185 : Nat) ({ cls := "TaskCoresModel", name := "begin", desc := "(I)V" } : Jvm.MethodName)) ∈ md_Ts := mw_4 90 rfl rfl
theorem tw_812 : (Jvm.Cond.instanceMethod ({ cls := "TaskCoresModel", name := "begin", desc := "(I)V" } : Jvm.MethodName)) ∈ md_Ts := mw_4 92 rfl rfl
theorem tw_813 : (Jvm.Cond.code ({ cls := "TaskCoresModel", name := "begin", desc := "(I)V" } : Jvm.MethodName) prog_12_method_11_code (2 : Nat) (Option.none : Option Jvm.ClassFile.FieldType)) ∈ md_Ts := mw_4 93 rfl rfl
theorem tw_814 : (Jvm.Cond.methodLink "TaskCoresModel" (165 : Nat) ({ cls := "TaskCoresModel", name := "tell", desc := "(II)V" } : Jvm.MethodName)) ∈ md_Ts := mw_4 94 rfl rfl
theorem tw_816 : (Jvm.Cond.instanceMethod ({ cls := "TaskCoresModel", name := "tell", desc := "(II)V" } : Jvm.MethodName)) ∈ md_Ts := mw_4 96 rfl rfl
theorem tw_817 : (Jvm.Cond.code ({ cls := "TaskCoresModel", name := "tell", desc := "(II)V" } : Jvm.MethodName) prog_12_method_9_code (3 : Nat) (Option.none : Option Jvm.ClassFile.FieldType)) ∈ md_Ts := mw_4 97 rfl rfl
theorem tw_818 : (Jvm.Cond.methodLink "TaskCoresModel" (169 : Nat) ({ cls := "TaskCoresModel", name := "ready", desc := "(I)V" } : Jvm.MethodName)) ∈ md_Ts := mw_4 98 rfl rfl
theorem tw_820 : (Jvm.Cond.instanceMethod ({ cls := "TaskCoresModel", name := "ready", desc := "(I)V" } : Jvm.MethodName)) ∈ md_Ts := mw_4 100 rfl rfl
theorem tw_821 : (Jvm.Cond.code ({ cls := "TaskCoresModel", name := "ready", desc := "(I)V" } : Jvm.MethodName) prog_12_method_10_code (2 : Nat) (Option.none : Option Jvm.ClassFile.FieldType)) ∈ md_Ts := mw_4 101 rfl rfl
theorem tw_822 : (Jvm.Cond.methodLink "TaskCoresModel" (232 : Nat) ({ cls := "TaskCoresModel", name := "step", desc := "(I)Z" } : Jvm.MethodName)) ∈ md_Ts := mw_4 102 rfl rfl
theorem tw_824 : (Jvm.Cond.instanceMethod ({ cls := "TaskCoresModel", name := "step", desc := "(I)Z" } : Jvm.MethodName)) ∈ md_Ts := mw_4 104 rfl rfl
theorem tw_825 : (Jvm.Cond.code ({ cls := "TaskCoresModel", name := "step", desc := "(I)Z" } : Jvm.MethodName) prog_12_method_25_code (4 : Nat) (Option.some Jvm.ClassFile.FieldType.boolean)) ∈ md_Ts := mw_4 105 rfl rfl
theorem tw_826 : (Jvm.Cond.methodLink "TaskCoresModel" (216 : Nat) ({ cls := "TaskCoresModel", name := "atHand", desc := "()I" } : Jvm.MethodName)) ∈ md_Ts := mw_4 106 rfl rfl
theorem tw_828 : (Jvm.Cond.instanceMethod ({ cls := "TaskCoresModel", name := "atHand", desc := "()I" } : Jvm.MethodName)) ∈ md_Ts := mw_4 108 rfl rfl
theorem tw_829 : (Jvm.Cond.code ({ cls := "TaskCoresModel", name := "atHand", desc := "()I" } : Jvm.MethodName) prog_12_method_24_code (4 : Nat) (Option.some Jvm.ClassFile.FieldType.int)) ∈ md_Ts := mw_4 109 rfl rfl
theorem tw_830 : (Jvm.Cond.methodLink "TaskCoresModel" (220 : Nat) ({ cls := "TaskCoresModel", name := "choose", desc := "(I)I" } : Jvm.MethodName)) ∈ md_Ts := mw_4 110 rfl rfl
theorem tw_832 : (Jvm.Cond.instanceMethod ({ cls := "TaskCoresModel", name := "choose", desc := "(I)I" } : Jvm.MethodName)) ∈ md_Ts := mw_4 112 rfl rfl
theorem tw_833 : (Jvm.Cond.code ({ cls := "TaskCoresModel", name := "choose", desc := "(I)I" } : Jvm.MethodName) prog_12_method_23_code (7 : Nat) (Option.some Jvm.ClassFile.FieldType.int)) ∈ md_Ts := mw_4 113 rfl rfl
theorem tw_834 : (Jvm.Cond.methodLink "TaskCoresModel" (209 : Nat) ({ cls := "TaskCoresModel", name := "runningOf", desc := "(I)I" } : Jvm.MethodName)) ∈ md_Ts := mw_4 114 rfl rfl
theorem tw_836 : (Jvm.Cond.instanceMethod ({ cls := "TaskCoresModel", name := "runningOf", desc := "(I)I" } : Jvm.MethodName)) ∈ md_Ts := mw_4 116 rfl rfl
theorem tw_837 : (Jvm.Cond.code ({ cls := "TaskCoresModel", name := "runningOf", desc := "(I)I" } : Jvm.MethodName) prog_12_method_22_code (4 : Nat) (Option.some Jvm.ClassFile.FieldType.int)) ∈ md_Ts := mw_4 117 rfl rfl
theorem tw_838 : (Jvm.Cond.methodLink "TaskCoresModel" (213 : Nat) ({ cls := "TaskCoresModel", name := "height", desc := "(I)I" } : Jvm.MethodName)) ∈ md_Ts := mw_4 118 rfl rfl
theorem tw_840 : (Jvm.Cond.instanceMethod ({ cls := "TaskCoresModel", name := "height", desc := "(I)I" } : Jvm.MethodName)) ∈ md_Ts := mw_4 120 rfl rfl
theorem tw_841 : (Jvm.Cond.code ({ cls := "TaskCoresModel", name := "height", desc := "(I)I" } : Jvm.MethodName) prog_12_method_20_code (4 : Nat) (Option.some Jvm.ClassFile.FieldType.int)) ∈ md_Ts := mw_4 121 rfl rfl
theorem tw_842 : (Jvm.Cond.methodLink "TaskCoresModel" (223 : Nat) ({ cls := "TaskCoresModel", name := "nextPart", desc := "(I)I" } : Jvm.MethodName)) ∈ md_Ts := mw_4 122 rfl rfl
theorem tw_844 : (Jvm.Cond.instanceMethod ({ cls := "TaskCoresModel", name := "nextPart", desc := "(I)I" } : Jvm.MethodName)) ∈ md_Ts := mw_4 124 rfl rfl
theorem tw_845 : (Jvm.Cond.code ({ cls := "TaskCoresModel", name := "nextPart", desc := "(I)I" } : Jvm.MethodName) prog_12_method_17_code (4 : Nat) (Option.some Jvm.ClassFile.FieldType.int)) ∈ md_Ts := mw_4 125 rfl rfl
theorem tw_846 : (Jvm.Cond.methodLink "TaskCoresModel" (191 : Nat) ({ cls := "TaskCoresModel", name := "ends", desc := "(I)V" } : Jvm.MethodName)) ∈ md_Ts := mw_4 126 rfl rfl
theorem tw_848 : (Jvm.Cond.instanceMethod ({ cls := "TaskCoresModel", name := "ends", desc := "(I)V" } : Jvm.MethodName)) ∈ md_Ts := mw_4 128 rfl rfl
theorem tw_849 : (Jvm.Cond.code ({ cls := "TaskCoresModel", name := "ends", desc := "(I)V" } : Jvm.MethodName) prog_12_method_16_code (2 : Nat) (Option.none : Option Jvm.ClassFile.FieldType)) ∈ md_Ts := mw_4 129 rfl rfl
theorem tw_850 : (Jvm.Cond.methodLink "TaskCoresModel" (182 : Nat) ({ cls := "TaskCoresModel", name := "free", desc := "(I)V" } : Jvm.MethodName)) ∈ md_Ts := mw_4 130 rfl rfl
theorem tw_852 : (Jvm.Cond.instanceMethod ({ cls := "TaskCoresModel", name := "free", desc := "(I)V" } : Jvm.MethodName)) ∈ md_Ts := mw_4 132 rfl rfl
theorem tw_853 : (Jvm.Cond.code ({ cls := "TaskCoresModel", name := "free", desc := "(I)V" } : Jvm.MethodName) prog_12_method_15_code (4 : Nat) (Option.none : Option Jvm.ClassFile.FieldType)) ∈ md_Ts := mw_4 133 rfl rfl
theorem tw_854 : (Jvm.Cond.methodLink "TaskCoresModel" (173 : Nat) ({ cls := "TaskCoresModel", name := "holdsSome", desc := "(I)Z" } : Jvm.MethodName)) ∈ md_Ts := mw_4 134 rfl rfl
theorem tw_856 : (Jvm.Cond.instanceMethod ({ cls := "TaskCoresModel", name := "holdsSome", desc := "(I)Z" } : Jvm.MethodName)) ∈ md_Ts := mw_4 136 rfl rfl
theorem tw_857 : (Jvm.Cond.code ({ cls := "TaskCoresModel", name := "holdsSome", desc := "(I)Z" } : Jvm.MethodName) prog_12_method_14_code (4 : Nat) (Option.some Jvm.ClassFile.FieldType.boolean)) ∈ md_Ts := mw_4 137 rfl rfl
theorem tw_858 : (Jvm.Cond.methodLink "TaskCoresModel" (179 : Nat) ({ cls := "TaskCoresModel", name := "unlock", desc := "(I)V" } : Jvm.MethodName)) ∈ md_Ts := mw_4 138 rfl rfl
theorem tw_860 : (Jvm.Cond.instanceMethod ({ cls := "TaskCoresModel", name := "unlock", desc := "(I)V" } : Jvm.MethodName)) ∈ md_Ts := mw_4 140 rfl rfl
theorem tw_861 : (Jvm.Cond.code ({ cls := "TaskCoresModel", name := "unlock", desc := "(I)V" } : Jvm.MethodName) prog_12_method_13_code (4 : Nat) (Option.none : Option Jvm.ClassFile.FieldType)) ∈ md_Ts := mw_4 141 rfl rfl
theorem tw_862 : (Jvm.Cond.methodLink "TaskCoresModel" (226 : Nat) ({ cls := "TaskCoresModel", name := "act", desc := "(IIJ)V" } : Jvm.MethodName)) ∈ md_Ts := mw_4 142 rfl rfl
theorem tw_864 : (Jvm.Cond.instanceMethod ({ cls := "TaskCoresModel", name := "act", desc := "(IIJ)V" } : Jvm.MethodName)) ∈ md_Ts := mw_4 144 rfl rfl
theorem tw_865 : (Jvm.Cond.code ({ cls := "TaskCoresModel", name := "act", desc := "(IIJ)V" } : Jvm.MethodName) prog_12_method_18_code (8 : Nat) (Option.none : Option Jvm.ClassFile.FieldType)) ∈ md_Ts := mw_4 145 rfl rfl
theorem tw_866 : (Jvm.Cond.methodLink "TaskCoresModel" (188 : Nat) ({ cls := "TaskCoresModel", name := "chain", desc := "(II)V" } : Jvm.MethodName)) ∈ md_Ts := mw_4 146 rfl rfl
theorem tw_868 : (Jvm.Cond.instanceMethod ({ cls := "TaskCoresModel", name := "chain", desc := "(II)V" } : Jvm.MethodName)) ∈ md_Ts := mw_4 148 rfl rfl
theorem tw_869 : (Jvm.Cond.code ({ cls := "TaskCoresModel", name := "chain", desc := "(II)V" } : Jvm.MethodName) prog_12_method_19_code (3 : Nat) (Option.none : Option Jvm.ClassFile.FieldType)) ∈ md_Ts := mw_4 149 rfl rfl
theorem tw_870 : (Jvm.Cond.constant "TaskCoresModel" (197 : Nat) (65536 : Int32)) ∈ md_Ts := mw_4 150 rfl rfl
theorem tw_871 : (Jvm.Cond.methodLink "TaskCoresModel" (198 : Nat) ({ cls := "TaskCoresModel", name := "set", desc := "(II)Z" } : Jvm.MethodName)) ∈ md_Ts := mw_4 151 rfl rfl
theorem tw_873 : (Jvm.Cond.instanceMethod ({ cls := "TaskCoresModel", name := "set", desc := "(II)Z" } : Jvm.MethodName)) ∈ md_Ts := mw_4 153 rfl rfl
theorem tw_874 : (Jvm.Cond.code ({ cls := "TaskCoresModel", name := "set", desc := "(II)Z" } : Jvm.MethodName) prog_12_method_12_code (3 : Nat) (Option.some Jvm.ClassFile.FieldType.boolean)) ∈ md_Ts := mw_4 154 rfl rfl
theorem tw_875 : (Jvm.Cond.constant "TaskCoresModel" (235 : Nat) (50000 : Int32)) ∈ md_Ts := mw_4 155 rfl rfl
theorem tw_876 : (Jvm.Cond.methodLink "TaskCoresModel" (236 : Nat) ({ cls := "TaskCoresModel", name := "pass", desc := "(I)V" } : Jvm.MethodName)) ∈ md_Ts := mw_4 156 rfl rfl
theorem tw_878 : (Jvm.Cond.instanceMethod ({ cls := "TaskCoresModel", name := "pass", desc := "(I)V" } : Jvm.MethodName)) ∈ md_Ts := mw_4 158 rfl rfl
theorem tw_879 : (Jvm.Cond.code ({ cls := "TaskCoresModel", name := "pass", desc := "(I)V" } : Jvm.MethodName) prog_12_method_26_code (2 : Nat) (Option.none : Option Jvm.ClassFile.FieldType)) ∈ md_Ts := mw_4 159 rfl rfl
theorem tw_880 : (Jvm.Cond.constantLong "TaskCoresModel" (230 : Nat) (-1 : Int64)) ∈ md_Ts := mw_4 160 rfl rfl
theorem tw_881 : (Jvm.Cond.methodLink "TaskCoresLaw" (57 : Nat) ({ cls := "TaskCoresModel", name := "now", desc := "()J" } : Jvm.MethodName)) ∈ md_Ts := mw_4 161 rfl rfl
theorem tw_882 : (Jvm.Cond.instanceMethod ({ cls := "TaskCoresModel", name := "now", desc := "()J" } : Jvm.MethodName)) ∈ md_Ts := mw_4 162 rfl rfl
theorem tw_883 : (Jvm.Cond.selects "TaskCoresModel" ({ cls := "TaskCoresModel", name := "now", desc := "()J" } : Jvm.MethodName) ({ cls := "TaskCoresModel", name := "now", desc := "()J" } : Jvm.MethodName)) ∈ md_Ts := mw_4 163 rfl rfl
theorem tw_884 : (Jvm.Cond.code ({ cls := "TaskCoresModel", name := "now", desc := "()J" } : Jvm.MethodName) prog_12_method_29_code (1 : Nat) (Option.some Jvm.ClassFile.FieldType.long)) ∈ md_Ts := mw_4 164 rfl rfl
theorem tw_885 : (Jvm.Cond.methodLink "TaskCoresLaw" (61 : Nat) ({ cls := "TaskCoresModel", name := "running", desc := "(IJ)I" } : Jvm.MethodName)) ∈ md_Ts := mw_4 165 rfl rfl
theorem tw_886 : (Jvm.Cond.instanceMethod ({ cls := "TaskCoresModel", name := "running", desc := "(IJ)I" } : Jvm.MethodName)) ∈ md_Ts := mw_4 166 rfl rfl
theorem tw_887 : (Jvm.Cond.selects "TaskCoresModel" ({ cls := "TaskCoresModel", name := "running", desc := "(IJ)I" } : Jvm.MethodName) ({ cls := "TaskCoresModel", name := "running", desc := "(IJ)I" } : Jvm.MethodName)) ∈ md_Ts := mw_4 167 rfl rfl
theorem tw_888 : (Jvm.Cond.code ({ cls := "TaskCoresModel", name := "running", desc := "(IJ)I" } : Jvm.MethodName) prog_12_method_30_code (4 : Nat) (Option.some Jvm.ClassFile.FieldType.int)) ∈ md_Ts := mw_4 168 rfl rfl
theorem tw_889 : (Jvm.Cond.methodLink "TaskCoresLaw" (66 : Nat) ({ cls := "TaskCoresModel", name := "used", desc := "(I)J" } : Jvm.MethodName)) ∈ md_Ts := mw_4 169 rfl rfl
theorem tw_890 : (Jvm.Cond.instanceMethod ({ cls := "TaskCoresModel", name := "used", desc := "(I)J" } : Jvm.MethodName)) ∈ md_Ts := mw_4 170 rfl rfl
theorem tw_891 : (Jvm.Cond.selects "TaskCoresModel" ({ cls := "TaskCoresModel", name := "used", desc := "(I)J" } : Jvm.MethodName) ({ cls := "TaskCoresModel", name := "used", desc := "(I)J" } : Jvm.MethodName)) ∈ md_Ts := mw_4 171 rfl rfl
theorem tw_892 : (Jvm.Cond.code ({ cls := "TaskCoresModel", name := "used", desc := "(I)J" } : Jvm.MethodName) prog_12_method_31_code (2 : Nat) (Option.some Jvm.ClassFile.FieldType.long)) ∈ md_Ts := mw_4 172 rfl rfl
theorem tw_893 : (Jvm.Cond.methodLink "TaskCoresLaw" (71 : Nat) ({ cls := "TaskCoresModel", name := "state", desc := "(I)I" } : Jvm.MethodName)) ∈ md_Ts := mw_4 173 rfl rfl
theorem tw_894 : (Jvm.Cond.instanceMethod ({ cls := "TaskCoresModel", name := "state", desc := "(I)I" } : Jvm.MethodName)) ∈ md_Ts := mw_4 174 rfl rfl
theorem tw_895 : (Jvm.Cond.selects "TaskCoresModel" ({ cls := "TaskCoresModel", name := "state", desc := "(I)I" } : Jvm.MethodName) ({ cls := "TaskCoresModel", name := "state", desc := "(I)I" } : Jvm.MethodName)) ∈ md_Ts := mw_4 175 rfl rfl
theorem tw_896 : (Jvm.Cond.code ({ cls := "TaskCoresModel", name := "state", desc := "(I)I" } : Jvm.MethodName) prog_12_method_32_code (2 : Nat) (Option.some Jvm.ClassFile.FieldType.int)) ∈ md_Ts := mw_4 176 rfl rfl
theorem tw_897 : (Jvm.Cond.methodLink "TaskCoresLaw" (76 : Nat) ({ cls := "TaskCoresModel", name := "event", desc := "(II)I" } : Jvm.MethodName)) ∈ md_Ts := mw_4 177 rfl rfl
theorem tw_898 : (Jvm.Cond.instanceMethod ({ cls := "TaskCoresModel", name := "event", desc := "(II)I" } : Jvm.MethodName)) ∈ md_Ts := mw_4 178 rfl rfl
theorem tw_899 : (Jvm.Cond.selects "TaskCoresModel" ({ cls := "TaskCoresModel", name := "event", desc := "(II)I" } : Jvm.MethodName) ({ cls := "TaskCoresModel", name := "event", desc := "(II)I" } : Jvm.MethodName)) ∈ md_Ts := mw_4 179 rfl rfl
theorem tw_900 : (Jvm.Cond.code ({ cls := "TaskCoresModel", name := "event", desc := "(II)I" } : Jvm.MethodName) prog_12_method_33_code (3 : Nat) (Option.some Jvm.ClassFile.FieldType.int)) ∈ md_Ts := mw_4 180 rfl rfl
theorem tw_901 : (Jvm.Cond.constant "TaskCoresModel" (245 : Nat) (65535 : Int32)) ∈ md_Ts := mw_4 181 rfl rfl
theorem tw_902 : (Jvm.Cond.methodLink "TaskCoresLaw" (80 : Nat) ({ cls := "TaskCoresModel", name := "events", desc := "(I)I" } : Jvm.MethodName)) ∈ md_Ts := mw_4 182 rfl rfl
theorem tw_903 : (Jvm.Cond.instanceMethod ({ cls := "TaskCoresModel", name := "events", desc := "(I)I" } : Jvm.MethodName)) ∈ md_Ts := mw_4 183 rfl rfl
theorem tw_904 : (Jvm.Cond.selects "TaskCoresModel" ({ cls := "TaskCoresModel", name := "events", desc := "(I)I" } : Jvm.MethodName) ({ cls := "TaskCoresModel", name := "events", desc := "(I)I" } : Jvm.MethodName)) ∈ md_Ts := mw_4 184 rfl rfl
theorem tw_905 : (Jvm.Cond.code ({ cls := "TaskCoresModel", name := "events", desc := "(I)I" } : Jvm.MethodName) prog_12_method_34_code (2 : Nat) (Option.some Jvm.ClassFile.FieldType.int)) ∈ md_Ts := mw_4 185 rfl rfl
theorem tw_906 : (Jvm.Cond.methodLink "TaskCoresLaw" (84 : Nat) ({ cls := "TaskCoresModel", name := "code", desc := "(II)I" } : Jvm.MethodName)) ∈ md_Ts := mw_4 186 rfl rfl
theorem tw_907 : (Jvm.Cond.instanceMethod ({ cls := "TaskCoresModel", name := "code", desc := "(II)I" } : Jvm.MethodName)) ∈ md_Ts := mw_4 187 rfl rfl
theorem tw_908 : (Jvm.Cond.selects "TaskCoresModel" ({ cls := "TaskCoresModel", name := "code", desc := "(II)I" } : Jvm.MethodName) ({ cls := "TaskCoresModel", name := "code", desc := "(II)I" } : Jvm.MethodName)) ∈ md_Ts := mw_4 188 rfl rfl
theorem tw_909 : (Jvm.Cond.code ({ cls := "TaskCoresModel", name := "code", desc := "(II)I" } : Jvm.MethodName) prog_12_method_35_code (3 : Nat) (Option.some Jvm.ClassFile.FieldType.int)) ∈ md_Ts := mw_4 189 rfl rfl
theorem tw_910 : (Jvm.Cond.methodLink "TaskCoresLaw" (88 : Nat) ({ cls := "TaskCoresModel", name := "order", desc := "(II)I" } : Jvm.MethodName)) ∈ md_Ts := mw_4 190 rfl rfl
theorem tw_911 : (Jvm.Cond.instanceMethod ({ cls := "TaskCoresModel", name := "order", desc := "(II)I" } : Jvm.MethodName)) ∈ md_Ts := mw_4 191 rfl rfl
theorem tw_912 : (Jvm.Cond.selects "TaskCoresModel" ({ cls := "TaskCoresModel", name := "order", desc := "(II)I" } : Jvm.MethodName) ({ cls := "TaskCoresModel", name := "order", desc := "(II)I" } : Jvm.MethodName)) ∈ md_Ts := mw_4 192 rfl rfl
theorem tw_913 : (Jvm.Cond.code ({ cls := "TaskCoresModel", name := "order", desc := "(II)I" } : Jvm.MethodName) prog_12_method_37_code (7 : Nat) (Option.some Jvm.ClassFile.FieldType.int)) ∈ md_Ts := mw_4 193 rfl rfl
theorem tw_914 : (Jvm.Cond.methodLink "TaskCoresModel" (246 : Nat) ({ cls := "TaskCoresModel", name := "isSwitch", desc := "(II)Z" } : Jvm.MethodName)) ∈ md_Ts := mw_4 194 rfl rfl
theorem tw_916 : (Jvm.Cond.instanceMethod ({ cls := "TaskCoresModel", name := "isSwitch", desc := "(II)Z" } : Jvm.MethodName)) ∈ md_Ts := mw_4 196 rfl rfl
theorem tw_917 : (Jvm.Cond.code ({ cls := "TaskCoresModel", name := "isSwitch", desc := "(II)Z" } : Jvm.MethodName) prog_12_method_36_code (3 : Nat) (Option.some Jvm.ClassFile.FieldType.boolean)) ∈ md_Ts := mw_4 197 rfl rfl
theorem tw_918 : (Jvm.Cond.methodLink "TaskCoresLaw" (92 : Nat) ({ cls := "TaskCoresModel", name := "spin", desc := "(II)I" } : Jvm.MethodName)) ∈ md_Ts := mw_4 198 rfl rfl
theorem tw_919 : (Jvm.Cond.instanceMethod ({ cls := "TaskCoresModel", name := "spin", desc := "(II)I" } : Jvm.MethodName)) ∈ md_Ts := mw_4 199 rfl rfl
theorem tw_920 : (Jvm.Cond.selects "TaskCoresModel" ({ cls := "TaskCoresModel", name := "spin", desc := "(II)I" } : Jvm.MethodName) ({ cls := "TaskCoresModel", name := "spin", desc := "(II)I" } : Jvm.MethodName)) ∈ md_Ts := mw_4 200 rfl rfl
theorem tw_921 : (Jvm.Cond.code ({ cls := "TaskCoresModel", name := "spin", desc := "(II)I" } : Jvm.MethodName) prog_12_method_38_code (5 : Nat) (Option.some Jvm.ClassFile.FieldType.int)) ∈ md_Ts := mw_4 201 rfl rfl
theorem tw_922 : (Jvm.Cond.methodLink "TaskCoresLaw" (96 : Nat) ({ cls := "TaskCoresModel", name := "holder", desc := "(I)I" } : Jvm.MethodName)) ∈ md_Ts := mw_4 202 rfl rfl
theorem tw_923 : (Jvm.Cond.instanceMethod ({ cls := "TaskCoresModel", name := "holder", desc := "(I)I" } : Jvm.MethodName)) ∈ md_Ts := mw_4 203 rfl rfl
theorem tw_924 : (Jvm.Cond.selects "TaskCoresModel" ({ cls := "TaskCoresModel", name := "holder", desc := "(I)I" } : Jvm.MethodName) ({ cls := "TaskCoresModel", name := "holder", desc := "(I)I" } : Jvm.MethodName)) ∈ md_Ts := mw_4 204 rfl rfl
theorem tw_925 : (Jvm.Cond.code ({ cls := "TaskCoresModel", name := "holder", desc := "(I)I" } : Jvm.MethodName) prog_12_method_39_code (2 : Nat) (Option.some Jvm.ClassFile.FieldType.int)) ∈ md_Ts := mw_4 205 rfl rfl
theorem tw_926 : (Jvm.Cond.constantLong "TaskCoresLaw" (26 : Nat) (4294967295 : Int64)) ∈ md_Ts := mw_4 206 rfl rfl
theorem tp_0 : Cond.selects "TaskCores" ({ cls := "TaskCores", name := "coreOf", desc := "(I)LTaskCores$Core;" } : Jvm.MethodName) ({ cls := "TaskCores", name := "coreOf", desc := "(I)LTaskCores$Core;" } : Jvm.MethodName) ∈ md_Ts := mw_p 0 rfl rfl
theorem tp_1 : Cond.selects "TaskCores" ({ cls := "TaskCores", name := "taskOf", desc := "(I)LTaskCores$Task;" } : Jvm.MethodName) ({ cls := "TaskCores", name := "taskOf", desc := "(I)LTaskCores$Task;" } : Jvm.MethodName) ∈ md_Ts := mw_p 1 rfl rfl
theorem tp_2 : Cond.selects "TaskCores" ({ cls := "TaskCores", name := "resourceOf", desc := "(I)LTaskCores$Resource;" } : Jvm.MethodName) ({ cls := "TaskCores", name := "resourceOf", desc := "(I)LTaskCores$Resource;" } : Jvm.MethodName) ∈ md_Ts := mw_p 2 rfl rfl
theorem tp_3 : Cond.selects "TaskCores" ({ cls := "TaskCores", name := "isToCome", desc := "(J)Z" } : Jvm.MethodName) ({ cls := "TaskCores", name := "isToCome", desc := "(J)Z" } : Jvm.MethodName) ∈ md_Ts := mw_p 3 rfl rfl
theorem tp_4 : Cond.selects "TaskCores" ({ cls := "TaskCores", name := "addTelling", desc := "(LTaskCores$Telling;)V" } : Jvm.MethodName) ({ cls := "TaskCores", name := "addTelling", desc := "(LTaskCores$Telling;)V" } : Jvm.MethodName) ∈ md_Ts := mw_p 4 rfl rfl
theorem tp_5 : Cond.selects "TaskCores" ({ cls := "TaskCores", name := "activateThoseTold", desc := "()V" } : Jvm.MethodName) ({ cls := "TaskCores", name := "activateThoseTold", desc := "()V" } : Jvm.MethodName) ∈ md_Ts := mw_p 5 rfl rfl
theorem tp_6 : Cond.selects "TaskCores" ({ cls := "TaskCores", name := "activateTask", desc := "(LTaskCores$Task;)V" } : Jvm.MethodName) ({ cls := "TaskCores", name := "activateTask", desc := "(LTaskCores$Task;)V" } : Jvm.MethodName) ∈ md_Ts := mw_p 6 rfl rfl
theorem tp_7 : Cond.selects "TaskCores" ({ cls := "TaskCores", name := "startTask", desc := "(LTaskCores$Task;)V" } : Jvm.MethodName) ({ cls := "TaskCores", name := "startTask", desc := "(LTaskCores$Task;)V" } : Jvm.MethodName) ∈ md_Ts := mw_p 7 rfl rfl
theorem tp_8 : Cond.selects "TaskCores" ({ cls := "TaskCores", name := "makeReady", desc := "(LTaskCores$Task;)V" } : Jvm.MethodName) ({ cls := "TaskCores", name := "makeReady", desc := "(LTaskCores$Task;)V" } : Jvm.MethodName) ∈ md_Ts := mw_p 8 rfl rfl
theorem tp_9 : Cond.selects "TaskCores" ({ cls := "TaskCores", name := "tellCode", desc := "(ILTaskCores$Task;)V" } : Jvm.MethodName) ({ cls := "TaskCores", name := "tellCode", desc := "(ILTaskCores$Task;)V" } : Jvm.MethodName) ∈ md_Ts := mw_p 9 rfl rfl
theorem tp_10 : Cond.selects "TaskCores" ({ cls := "TaskCores", name := "takeSteps", desc := "()V" } : Jvm.MethodName) ({ cls := "TaskCores", name := "takeSteps", desc := "()V" } : Jvm.MethodName) ∈ md_Ts := mw_p 10 rfl rfl
theorem tp_11 : Cond.selects "TaskCores" ({ cls := "TaskCores", name := "taskWithStep", desc := "(LTaskCores$Core;)LTaskCores$Task;" } : Jvm.MethodName) ({ cls := "TaskCores", name := "taskWithStep", desc := "(LTaskCores$Core;)LTaskCores$Task;" } : Jvm.MethodName) ∈ md_Ts := mw_p 11 rfl rfl
theorem tp_12 : Cond.selects "TaskCores" ({ cls := "TaskCores", name := "choose", desc := "(LTaskCores$Core;)V" } : Jvm.MethodName) ({ cls := "TaskCores", name := "choose", desc := "(LTaskCores$Core;)V" } : Jvm.MethodName) ∈ md_Ts := mw_p 12 rfl rfl
theorem tp_13 : Cond.selects "TaskCores" ({ cls := "TaskCores", name := "lockOf", desc := "(I)LTaskCores$Lock;" } : Jvm.MethodName) ({ cls := "TaskCores", name := "lockOf", desc := "(I)LTaskCores$Lock;" } : Jvm.MethodName) ∈ md_Ts := mw_p 13 rfl rfl
theorem tp_14 : Cond.selects "TaskCores" ({ cls := "TaskCores", name := "doNextPart", desc := "(LTaskCores$Task;)V" } : Jvm.MethodName) ({ cls := "TaskCores", name := "doNextPart", desc := "(LTaskCores$Task;)V" } : Jvm.MethodName) ∈ md_Ts := mw_p 14 rfl rfl
theorem tp_15 : Cond.selects "TaskCores" ({ cls := "TaskCores", name := "endTask", desc := "(LTaskCores$Task;)V" } : Jvm.MethodName) ({ cls := "TaskCores", name := "endTask", desc := "(LTaskCores$Task;)V" } : Jvm.MethodName) ∈ md_Ts := mw_p 15 rfl rfl
theorem tp_16 : Cond.selects "TaskCores" ({ cls := "TaskCores", name := "freeAll", desc := "(LTaskCores$Task;)Z" } : Jvm.MethodName) ({ cls := "TaskCores", name := "freeAll", desc := "(LTaskCores$Task;)Z" } : Jvm.MethodName) ∈ md_Ts := mw_p 16 rfl rfl
theorem tp_17 : Cond.selects "TaskCores" ({ cls := "TaskCores", name := "activateByTask", desc := "(LTaskCores$Task;I)V" } : Jvm.MethodName) ({ cls := "TaskCores", name := "activateByTask", desc := "(LTaskCores$Task;I)V" } : Jvm.MethodName) ∈ md_Ts := mw_p 17 rfl rfl
theorem tp_18 : Cond.selects "TaskCores" ({ cls := "TaskCores", name := "chain", desc := "(LTaskCores$Task;I)V" } : Jvm.MethodName) ({ cls := "TaskCores", name := "chain", desc := "(LTaskCores$Task;I)V" } : Jvm.MethodName) ∈ md_Ts := mw_p 18 rfl rfl
theorem tp_19 : Cond.selects "TaskCores" ({ cls := "TaskCores", name := "waitFor", desc := "(LTaskCores$Task;I)V" } : Jvm.MethodName) ({ cls := "TaskCores", name := "waitFor", desc := "(LTaskCores$Task;I)V" } : Jvm.MethodName) ∈ md_Ts := mw_p 19 rfl rfl
theorem tp_20 : Cond.selects "TaskCores" ({ cls := "TaskCores", name := "setByTask", desc := "(LTaskCores$Task;II)V" } : Jvm.MethodName) ({ cls := "TaskCores", name := "setByTask", desc := "(LTaskCores$Task;II)V" } : Jvm.MethodName) ∈ md_Ts := mw_p 20 rfl rfl
theorem tp_21 : Cond.selects "TaskCores" ({ cls := "TaskCores", name := "setEvents", desc := "(LTaskCores$Task;I)V" } : Jvm.MethodName) ({ cls := "TaskCores", name := "setEvents", desc := "(LTaskCores$Task;I)V" } : Jvm.MethodName) ∈ md_Ts := mw_p 21 rfl rfl
theorem tp_22 : Cond.selects "TaskCores" ({ cls := "TaskCores", name := "clearEvents", desc := "(LTaskCores$Task;I)V" } : Jvm.MethodName) ({ cls := "TaskCores", name := "clearEvents", desc := "(LTaskCores$Task;I)V" } : Jvm.MethodName) ∈ md_Ts := mw_p 22 rfl rfl
theorem tp_23 : Cond.selects "TaskCores" ({ cls := "TaskCores", name := "getResource", desc := "(LTaskCores$Task;LTaskCores$Resource;)V" } : Jvm.MethodName) ({ cls := "TaskCores", name := "getResource", desc := "(LTaskCores$Task;LTaskCores$Resource;)V" } : Jvm.MethodName) ∈ md_Ts := mw_p 23 rfl rfl
theorem tp_24 : Cond.selects "TaskCores" ({ cls := "TaskCores", name := "freeResource", desc := "(LTaskCores$Task;LTaskCores$Resource;)V" } : Jvm.MethodName) ({ cls := "TaskCores", name := "freeResource", desc := "(LTaskCores$Task;LTaskCores$Resource;)V" } : Jvm.MethodName) ∈ md_Ts := mw_p 24 rfl rfl
theorem tp_25 : Cond.selects "TaskCores" ({ cls := "TaskCores", name := "takeLock", desc := "(LTaskCores$Task;LTaskCores$Lock;)V" } : Jvm.MethodName) ({ cls := "TaskCores", name := "takeLock", desc := "(LTaskCores$Task;LTaskCores$Lock;)V" } : Jvm.MethodName) ∈ md_Ts := mw_p 25 rfl rfl
theorem tp_26 : Cond.selects "TaskCores" ({ cls := "TaskCores", name := "unlock", desc := "(LTaskCores$Task;LTaskCores$Lock;)V" } : Jvm.MethodName) ({ cls := "TaskCores", name := "unlock", desc := "(LTaskCores$Task;LTaskCores$Lock;)V" } : Jvm.MethodName) ∈ md_Ts := mw_p 26 rfl rfl
theorem tp_27 : Cond.selects "TaskCores" ({ cls := "TaskCores", name := "putOff", desc := "(LTaskCores$Task;I)V" } : Jvm.MethodName) ({ cls := "TaskCores", name := "putOff", desc := "(LTaskCores$Task;I)V" } : Jvm.MethodName) ∈ md_Ts := mw_p 27 rfl rfl
theorem tp_28 : Cond.selects "TaskCores" ({ cls := "TaskCores", name := "putOn", desc := "(LTaskCores$Task;)V" } : Jvm.MethodName) ({ cls := "TaskCores", name := "putOn", desc := "(LTaskCores$Task;)V" } : Jvm.MethodName) ∈ md_Ts := mw_p 28 rfl rfl
theorem tp_29 : Cond.selects "TaskCores" ({ cls := "TaskCores", name := "tellIfOffTooLong", desc := "()V" } : Jvm.MethodName) ({ cls := "TaskCores", name := "tellIfOffTooLong", desc := "()V" } : Jvm.MethodName) ∈ md_Ts := mw_p 29 rfl rfl
theorem tp_30 : Cond.selects "TaskCores" ({ cls := "TaskCores", name := "quietMicroseconds", desc := "(I)I" } : Jvm.MethodName) ({ cls := "TaskCores", name := "quietMicroseconds", desc := "(I)I" } : Jvm.MethodName) ∈ md_Ts := mw_p 30 rfl rfl
theorem tp_31 : Cond.selects "TaskCores" ({ cls := "TaskCores", name := "passMicroseconds", desc := "(I)I" } : Jvm.MethodName) ({ cls := "TaskCores", name := "passMicroseconds", desc := "(I)I" } : Jvm.MethodName) ∈ md_Ts := mw_p 31 rfl rfl
theorem tp_32 : Cond.selects "TaskCoresModel" ({ cls := "TaskCoresModel", name := "no", desc := "(I)Z" } : Jvm.MethodName) ({ cls := "TaskCoresModel", name := "no", desc := "(I)Z" } : Jvm.MethodName) ∈ md_Ts := mw_p 32 rfl rfl
theorem tp_33 : Cond.selects "TaskCoresModel" ({ cls := "TaskCoresModel", name := "findCeilings", desc := "()V" } : Jvm.MethodName) ({ cls := "TaskCoresModel", name := "findCeilings", desc := "()V" } : Jvm.MethodName) ∈ md_Ts := mw_p 33 rfl rfl
theorem tp_34 : Cond.selects "TaskCoresModel" ({ cls := "TaskCoresModel", name := "microsecond", desc := "()I" } : Jvm.MethodName) ({ cls := "TaskCoresModel", name := "microsecond", desc := "()I" } : Jvm.MethodName) ∈ md_Ts := mw_p 34 rfl rfl
theorem tp_35 : Cond.selects "TaskCoresModel" ({ cls := "TaskCoresModel", name := "begin", desc := "(I)V" } : Jvm.MethodName) ({ cls := "TaskCoresModel", name := "begin", desc := "(I)V" } : Jvm.MethodName) ∈ md_Ts := mw_p 35 rfl rfl
theorem tp_36 : Cond.selects "TaskCoresModel" ({ cls := "TaskCoresModel", name := "tell", desc := "(II)V" } : Jvm.MethodName) ({ cls := "TaskCoresModel", name := "tell", desc := "(II)V" } : Jvm.MethodName) ∈ md_Ts := mw_p 36 rfl rfl
theorem tp_37 : Cond.selects "TaskCoresModel" ({ cls := "TaskCoresModel", name := "ready", desc := "(I)V" } : Jvm.MethodName) ({ cls := "TaskCoresModel", name := "ready", desc := "(I)V" } : Jvm.MethodName) ∈ md_Ts := mw_p 37 rfl rfl
theorem tp_38 : Cond.selects "TaskCoresModel" ({ cls := "TaskCoresModel", name := "step", desc := "(I)Z" } : Jvm.MethodName) ({ cls := "TaskCoresModel", name := "step", desc := "(I)Z" } : Jvm.MethodName) ∈ md_Ts := mw_p 38 rfl rfl
theorem tp_39 : Cond.selects "TaskCoresModel" ({ cls := "TaskCoresModel", name := "atHand", desc := "()I" } : Jvm.MethodName) ({ cls := "TaskCoresModel", name := "atHand", desc := "()I" } : Jvm.MethodName) ∈ md_Ts := mw_p 39 rfl rfl
theorem tp_40 : Cond.selects "TaskCoresModel" ({ cls := "TaskCoresModel", name := "choose", desc := "(I)I" } : Jvm.MethodName) ({ cls := "TaskCoresModel", name := "choose", desc := "(I)I" } : Jvm.MethodName) ∈ md_Ts := mw_p 40 rfl rfl
theorem tp_41 : Cond.selects "TaskCoresModel" ({ cls := "TaskCoresModel", name := "runningOf", desc := "(I)I" } : Jvm.MethodName) ({ cls := "TaskCoresModel", name := "runningOf", desc := "(I)I" } : Jvm.MethodName) ∈ md_Ts := mw_p 41 rfl rfl
theorem tp_42 : Cond.selects "TaskCoresModel" ({ cls := "TaskCoresModel", name := "height", desc := "(I)I" } : Jvm.MethodName) ({ cls := "TaskCoresModel", name := "height", desc := "(I)I" } : Jvm.MethodName) ∈ md_Ts := mw_p 42 rfl rfl
theorem tp_43 : Cond.selects "TaskCoresModel" ({ cls := "TaskCoresModel", name := "nextPart", desc := "(I)I" } : Jvm.MethodName) ({ cls := "TaskCoresModel", name := "nextPart", desc := "(I)I" } : Jvm.MethodName) ∈ md_Ts := mw_p 43 rfl rfl
theorem tp_44 : Cond.selects "TaskCoresModel" ({ cls := "TaskCoresModel", name := "ends", desc := "(I)V" } : Jvm.MethodName) ({ cls := "TaskCoresModel", name := "ends", desc := "(I)V" } : Jvm.MethodName) ∈ md_Ts := mw_p 44 rfl rfl
theorem tp_45 : Cond.selects "TaskCoresModel" ({ cls := "TaskCoresModel", name := "free", desc := "(I)V" } : Jvm.MethodName) ({ cls := "TaskCoresModel", name := "free", desc := "(I)V" } : Jvm.MethodName) ∈ md_Ts := mw_p 45 rfl rfl
theorem tp_46 : Cond.selects "TaskCoresModel" ({ cls := "TaskCoresModel", name := "holdsSome", desc := "(I)Z" } : Jvm.MethodName) ({ cls := "TaskCoresModel", name := "holdsSome", desc := "(I)Z" } : Jvm.MethodName) ∈ md_Ts := mw_p 46 rfl rfl
theorem tp_47 : Cond.selects "TaskCoresModel" ({ cls := "TaskCoresModel", name := "unlock", desc := "(I)V" } : Jvm.MethodName) ({ cls := "TaskCoresModel", name := "unlock", desc := "(I)V" } : Jvm.MethodName) ∈ md_Ts := mw_p 47 rfl rfl
theorem tp_48 : Cond.selects "TaskCoresModel" ({ cls := "TaskCoresModel", name := "act", desc := "(IIJ)V" } : Jvm.MethodName) ({ cls := "TaskCoresModel", name := "act", desc := "(IIJ)V" } : Jvm.MethodName) ∈ md_Ts := mw_p 48 rfl rfl
theorem tp_49 : Cond.selects "TaskCoresModel" ({ cls := "TaskCoresModel", name := "chain", desc := "(II)V" } : Jvm.MethodName) ({ cls := "TaskCoresModel", name := "chain", desc := "(II)V" } : Jvm.MethodName) ∈ md_Ts := mw_p 49 rfl rfl
theorem tp_50 : Cond.selects "TaskCoresModel" ({ cls := "TaskCoresModel", name := "set", desc := "(II)Z" } : Jvm.MethodName) ({ cls := "TaskCoresModel", name := "set", desc := "(II)Z" } : Jvm.MethodName) ∈ md_Ts := mw_p 50 rfl rfl
theorem tp_51 : Cond.selects "TaskCoresModel" ({ cls := "TaskCoresModel", name := "pass", desc := "(I)V" } : Jvm.MethodName) ({ cls := "TaskCoresModel", name := "pass", desc := "(I)V" } : Jvm.MethodName) ∈ md_Ts := mw_p 51 rfl rfl
theorem tp_52 : Cond.selects "TaskCoresModel" ({ cls := "TaskCoresModel", name := "isSwitch", desc := "(II)Z" } : Jvm.MethodName) ({ cls := "TaskCoresModel", name := "isSwitch", desc := "(II)Z" } : Jvm.MethodName) ∈ md_Ts := mw_p 52 rfl rfl
def md_nest : List (String × Nat × MethodName) := [("TaskCores", 29, ({ cls := "TaskCores$Interrupts", name := "<init>", desc := "()V" } : Jvm.MethodName)), ("TaskCores", 50, ({ cls := "TaskCores$Resource", name := "<init>", desc := "()V" } : Jvm.MethodName)), ("TaskCores", 51, ({ cls := "TaskCores$Lock", name := "<init>", desc := "()V" } : Jvm.MethodName))]
end
section
def mj_ref : FieldType → Bool
  | .object _ => true
  | .array _ => true
  | _ => false
/-! array classes: what the tables say of them in every state -/
/-- what a fresh place holds -/
def mj_dv : FieldType → Value
  | .object _ => .null
  | .array _ => .null
  | .long => .long 0
  | _ => .int 0
def mj_cn : FieldType → String
  | .object C => C
  | ty => ty.toString
def mj_AT (U : State) (cA : ClassId) (ty : FieldType) : Prop := ArrOfT U cA ty ∧ U.vm.findClass ("[" ++ ty.toString) = some cA ∧ (mj_ref ty = true → ∃ (kA : Class) (comp : ClassId), U.vm.classes[cA]? = some kA ∧ kA.kind = .array comp ty ∧ U.vm.findClass (mj_cn ty) = some comp ∧
  (U.vm.classes.findIdx? fun (x : Class) => match x.kind with | .array component _ => component == comp | _ => false) = some cA)
theorem mj_AT.moved {u U : State} {cA : ClassId} {ty : FieldType} (hvm : u.vm.Alike U.vm) (h : mj_AT u cA ty) : mj_AT U cA ty := by
  obtain ⟨h1, h2, h3⟩ := h
  refine ⟨arrOfT_moved hvm h1, by rw [hvm.findClass]; exact h2, fun hr => ?_⟩
  obtain ⟨kA, comp, q1, q2, q3, q4⟩ := h3 hr
  obtain ⟨k', hk', he⟩ := hvm.2.2 _ _ q1
  refine ⟨k', comp, hk', by rw [he]; exact q2, by rw [hvm.findClass]; exact q3, ?_⟩
  have key := va_idx_bare U.vm comp
  rw [show U.vm.bare = u.vm.bare from by first | exact hvm.bare_eq | exact hvm.bare_eq.symm, va_idx_bare] at key
  exact key.symm.trans q4
theorem mj_AT.over {U : State} {cA : ClassId} {ty : FieldType} {args : Array Value} (hr : mj_ref ty = true) (h : mj_AT U cA ty) : (Cond.arrayOver ty).before args U = true := by
  obtain ⟨-, h2, h3⟩ := h
  obtain ⟨kA, comp, q1, q2, q3, q4⟩ := h3 hr
  have key : ∀ nm : String, U.vm.findClass nm = some comp → ((U.vm.findClass nm).bind fun comp => (U.vm.classes.findIdx? fun (x : Class) => match x.kind with | .array component _ => component == comp | _ => false).bind fun c => (U.vm.classes[c]?).map fun (k : Class) => match k.kind with | .array _ t => decide (t = ty) && decide (U.vm.findClass ("[" ++ ty.toString) = some c) | _ => false) = some true := by
    intro nm hnm
    rw [hnm, Option.bind_some]
    refine (congrArg (fun o : Option Nat => (o.bind fun c => (U.vm.classes[c]?).map fun (k : Class) => match k.kind with | .array _ t => decide (t = ty) && decide (U.vm.findClass ("[" ++ ty.toString) = some c) | _ => false)) q4).trans ?_
    simp [q1, q2, h2]
  unfold Cond.before Cond.holds
  cases ty <;> first | (exact absurd hr Bool.false_ne_true) | skip
  · exact beq_iff_eq.mpr (key _ q3)
  · exact beq_iff_eq.mpr (key _ q3)
theorem mj_AT.ofOver {U : State} {ty : FieldType} {args : Array Value} (hr : mj_ref ty = true) (h : (Cond.arrayOver ty).before args U = true) : ∃ cA, mj_AT U cA ty := by
  cases ty <;> first | (exact absurd hr Bool.false_ne_true) | skip
  · obtain ⟨comp, c, k, h1, h2, h3, h4, h5⟩ := Cond.arrayOver_spec h
    exact ⟨c, fun n z => ⟨fun q h => (by cases h), k, h3, comp, h4⟩, h5, fun _ => ⟨k, comp, h3, h4, h1, h2⟩⟩
  · obtain ⟨comp, c, k, h1, h2, h3, h4, h5⟩ := arrayOverA_spec h
    exact ⟨c, fun n z => ⟨fun q h => (by cases h), k, h3, comp, h4⟩, h5, fun _ => ⟨k, comp, h3, h4, h1, h2⟩⟩
/-- the names of the class's tables -/
def mj_snm : Nat → String
  | 0 => "LEAST_VALUE"
  | _ => "MOST_VALUE"
/-- what holds of the old arrays, of the statics that hold two of them, and of the links to private constructors -/
def mj_SK (o : Nat → Nat × Nat × (Nat → Int32)) (Z : Heap) (U : State) : Prop :=
  (∀ j, j < 3 → va_T .int (o j).1 (o j).2.1 (fun k => .int ((o j).2.2 k)) (fun q => Z.size ≤ q) U Z) ∧ (∀ j, j < 2 → va_Z "TaskCores" (mj_snm j) "[I" (.ref (o j).1) (fun q => Z.size ≤ q) U Z) ∧ ∀ q ∈ md_nest, va_Nw (.methodLinkNest q.1 q.2.1 q.2.2 "TaskCores") U
/-! The memory: a tag to each address (0 nothing, ci+1 an object of class ci, 1000+t an array of kind t), ints, references, longs by address and place, lengths of arrays -/
abbrev mj_MM : Type := (Nat → Nat) × (Nat → Nat → Int32) × (Nat → Nat → Option Nat) × (Nat → Nat → Int64) × (Nat → Nat) × Nat × Nat
def mj_t (μ : mj_MM) (a : Nat) : Nat := μ.1 a
def mj_i (μ : mj_MM) (a k : Nat) : Int32 := μ.2.1 a k
def mj_r (μ : mj_MM) (a k : Nat) : Option Nat := μ.2.2.1 a k
def mj_l (μ : mj_MM) (a k : Nat) : Int64 := μ.2.2.2.1 a k
def mj_n (μ : mj_MM) (a : Nat) : Nat := μ.2.2.2.2.1 a
/-- cells and slots made so far -/
def mj_nc (μ : mj_MM) : Nat := μ.2.2.2.2.2.1
def mj_ns (μ : mj_MM) : Nat := μ.2.2.2.2.2.2
def mj_u {α : Type} (f : Nat → Nat → α) (a k : Nat) (x : α) : Nat → Nat → α := fun b j => if j = k then (if b = a then x else f b j) else f b j
def mj_pI (μ : mj_MM) (a k : Nat) (x : Int32) : mj_MM := (μ.1, mj_u μ.2.1 a k x, μ.2.2)
def mj_pR (μ : mj_MM) (a k : Nat) (x : Option Nat) : mj_MM := (μ.1, μ.2.1, mj_u μ.2.2.1 a k x, μ.2.2.2)
def mj_pL (μ : mj_MM) (a k : Nat) (x : Int64) : mj_MM := (μ.1, μ.2.1, μ.2.2.1, mj_u μ.2.2.2.1 a k x, μ.2.2.2.2)
def mj_w {α : Type} (f : Nat → α) (a : Nat) (x : α) : Nat → α := fun b => if b = a then x else f b
/-- a new object or array: tag, all places empty, its length, its slots -/
def mj_new (μ : mj_MM) (a t n k : Nat) : mj_MM := (mj_w μ.1 a t, mj_w μ.2.1 a (fun _ => 0), mj_w μ.2.2.1 a (fun _ => none), mj_w μ.2.2.2.1 a (fun _ => 0), mj_w μ.2.2.2.2.1 a n, μ.2.2.2.2.2.1 + 1, μ.2.2.2.2.2.2 + k)
theorem mj_u_self {α : Type} (f : Nat → Nat → α) (a k : Nat) (x : α) : mj_u f a k x a k = x := by simp [mj_u]
theorem mj_u_ne {α : Type} (f : Nat → Nat → α) {a k b j : Nat} (x : α) (h : ¬ (b = a ∧ j = k)) : mj_u f a k x b j = f b j := by
  unfold mj_u
  by_cases h1 : j = k
  · by_cases h2 : b = a
    · exact absurd ⟨h2, h1⟩ h
    · simp [h1, h2]
  · simp [h1]
theorem mj_u_apart {α : Type} (f : Nat → Nat → α) {a k b j : Nat} (x : α) (h : b ≠ a) : mj_u f a k x b j = f b j := mj_u_ne f x (fun q => h q.1)
theorem mj_u_row {α : Type} (f : Nat → Nat → α) {a k b : Nat} (x : α) (h : b ≠ a) : mj_u f a k x b = f b := funext fun _ => mj_u_apart f x h
/-- what a place of a type shows -/
def mj_val (ty : FieldType) (μ : mj_MM) (a k : Nat) : Value := match ty with
  | .object _ => va_rf (mj_r μ a k)
  | .array _ => va_rf (mj_r μ a k)
  | .long => .long (mj_l μ a k)
  | _ => .int (mj_i μ a k)
def mj_arr (ty : FieldType) (μ : mj_MM) (a : Nat) : vp_A := match ty with
  | .object _ => (mj_n μ a, .inr (.inr (.inr (.inr (mj_r μ a)))))
  | .array _ => (mj_n μ a, .inr (.inr (.inr (.inr (mj_r μ a)))))
  | .long => (mj_n μ a, .inr (.inl (mj_l μ a)))
  | _ => (mj_n μ a, .inl (mj_i μ a))
/-- the launch; classes' numbers and slots; array classes' numbers, and the old arrays (where, how long, what: 0 and 1 the class's tables, 2 the script); the heap at the law's entry -/
abbrev mj_G : Type := Launch × va_G × ((Nat → ClassId) × (Nat → Nat × Nat × (Nat → Int32))) × Heap
/-- a method: its class, code, locals, frames and words that its calls need, what it returns, is it a constructor -/
abbrev mj_Y : Type := String × ByteArray × Nat × Nat × Nat × Option FieldType × Bool
/-- the world: what lay there at the law's entry (G.2.2.2) is as it was; the memory's objects and arrays lie behind it -/
def mj_W (G : mj_G) (μ : mj_MM) (H : Heap) : Prop :=
  G.2.2.2.size ≤ H.size ∧ (∀ q : Nat, q < G.2.2.2.size → H[q]? = G.2.2.2[q]?) ∧ (∀ a : Nat, mj_t μ a ≠ 0 → G.2.2.2.size ≤ a ∧ a < H.size) ∧
  (∀ a ci : Nat, ci < 500 → mj_t μ a = ci + 1 → ∃ r : vw_C, md_cl[ci]? = some r ∧ t_OB a (G.2.1.1 ci) r.2.2 (G.2.1.2 ci) H (fun k => mj_val (md_ty ci k) μ a k)) ∧
  (∀ a t : Nat, mj_t μ a = 1000 + t → ∃ ty : FieldType, md_at[t]? = some ty ∧ H[a]? = some (vp_cell (G.2.2.1.1 t) (mj_arr ty μ a)))
/-- what holds of the tables in every state -/
def mj_K (G : mj_G) (U : State) : Prop := va_K G.2.1 md_cl [] U ∧ (∀ (t : Nat) (ty : FieldType), md_at[t]? = some ty → mj_AT U (G.2.2.1.1 t) ty) ∧ mj_SK G.2.2.1.2 G.2.2.2 U
theorem mj_K.warm {G : mj_G} {u U : State} (hW : u.WarmedH U.vm) (h : mj_K G u) : mj_K G U := ⟨va_K.moved hW.alike h.1, fun t ty q => mj_AT.moved hW.alike (h.2.1 t ty q), fun j hj => va_T.moved hW.alike (h.2.2.1 j hj), fun j hj => va_Z.moved hW.alike (h.2.2.2.1 j hj), fun q hq => va_Nw.warmM hW (h.2.2.2.2 q hq)⟩
theorem mj_K.same {G : mj_G} {u U : State} (hv : u.vm = U.vm) (h : mj_K G u) : mj_K G U := by
  have ha : u.vm.Alike U.vm := by rw [hv]; exact Vm.Alike.refl _
  exact ⟨va_K.moved ha h.1, fun t ty q => mj_AT.moved ha (h.2.1 t ty q), fun j hj => va_T.moved ha (h.2.2.1 j hj), fun j hj => va_Z.moved ha (h.2.2.2.1 j hj), fun q hq => va_Nw.same rfl hv (h.2.2.2.2 q hq)⟩
def mj_ret (cc : ByteArray) (pc : Nat) (rt : Option FieldType) (v : Option Value) : Prop :=
  (v = none ∧ rt = none ∧ decode cc pc = .ok (.return_, 1)) ∨ (∃ (x : Int32) (ty : FieldType), v = some (.int x) ∧ rt = some ty ∧ narrow ty (.int x) = .int x ∧ decode cc pc = .ok (.ireturn, 1)) ∨
  (∃ x : Int64, v = some (.long x) ∧ rt = some .long ∧ decode cc pc = .ok (.lreturn, 1)) ∨ (∃ (r : Option Nat) (ty : FieldType), v = some (va_rf r) ∧ rt = some ty ∧ ((∃ n, ty = .object n) ∨ ∃ t, ty = .array t) ∧ decode cc pc = .ok (.areturn, 1))
def mj_C (G : mj_G) (Y : mj_Y) (Ex : Option Value → mj_MM → Prop) (p : Program) (e : Env) (R : Room) (s : State) (m : MethodId) (args : Array Value) (below : List Frame) (meth : Method) (c : Code) (Q : State → Prop) : Prop :=
  p.tables.exec = Jvm.exec ∧ c.code = Y.2.1 ∧ c.maxLocals = Y.2.2.1 ∧ s.vm.findClass Y.1 = some m.cls ∧ (∀ w ∈ md_Ts, w.before args s = true) ∧ mj_K G s ∧ Y.2.2.2.1 ≤ R.frames ∧ Y.2.2.2.2.1 ≤ R.locals ∧ (Y.2.2.2.2.2.2 = true → meth.name = "<init>") ∧
  ∀ (H : Heap) (locs : List Loc) (cells slots pc : Nat) (ls : Array Slot) (v : Option Value) (μ : mj_MM), mj_W G μ H → (∀ q ∈ locs, G.2.2.2.size ≤ q.base) → cells ≤ R.cells → slots ≤ R.slots → Ex v μ → mj_ret Y.2.1 pc Y.2.2.2.2.2.1 v → W p G.1 e R s m args below meth c H locs cells slots Q (F0 m pc ls v.toList)
/-- THE JUDGEMENT: from pc, with these locals, this stack, this memory, the method comes to its end with Ex, N cells and S slots made by then in all -/
def mj_J (G : mj_G) (Y : mj_Y) (Ex : Option Value → mj_MM → Prop) (N S pc : Nat) (lv : List (Nat × Value)) (st : List Value) (μ : mj_MM) : Prop :=
  ∀ (p : Program) (e : Env) (R : Room) (s : State) (m : MethodId) (args : Array Value) (below : List Frame) (meth : Method) (c : Code) (Q : State → Prop), mj_C G Y Ex p e R s m args below meth c Q →
  ∀ (H : Heap) (locs : List Loc) (cells slots : Nat) (ls : Array Slot), mj_W G μ H → (∀ q ∈ locs, G.2.2.2.size ≤ q.base) → mj_nc μ ≤ N ∧ mj_ns μ ≤ S → cells + (N - mj_nc μ) ≤ R.cells → slots + (S - mj_ns μ) ≤ R.slots → lv_has ls Y.2.2.1 lv →
  W p G.1 e R s m args below meth c H locs cells slots Q (F0 m pc ls st)
/-- a method's contract at one memory and one row of arguments -/
def mj_M (G : mj_G) (y : MethodName) (Y : mj_Y) (as : List Value) (N S : Nat) (μ : mj_MM) (Ex : Option Value → mj_MM → Prop) : Prop :=
  (mj_nc μ ≤ N ∧ mj_ns μ ≤ S) ∧ Met G.1 y (Cond.code y Y.2.1 Y.2.2.1 Y.2.2.2.2.2.1 :: md_Ts) ({ frames := Y.2.2.2.1, cells := N - mj_nc μ, slots := S - mj_ns μ, locals := Y.2.2.2.2.1 }) (va_Pc as (fun U => mj_W G μ U.heap ∧ mj_K G U)) (fun _ _ o t => ∃ (v : Option Value) (μ' : mj_MM), o = .returned v ∧ (Ex v μ' ∧ mj_nc μ' = N ∧ mj_ns μ' = S) ∧ mj_W G μ' t.heap) (N - mj_nc μ) (S - mj_ns μ) (fun q => G.2.2.2.size ≤ q)
def mj_XV (P : mj_MM → Prop) : Option Value → mj_MM → Prop := fun v μ => v = none ∧ P μ
def mj_XI (P : Int32 → mj_MM → Prop) : Option Value → mj_MM → Prop := fun v μ => ∃ x : Int32, v = some (.int x) ∧ P x μ
def mj_XL (P : Int64 → mj_MM → Prop) : Option Value → mj_MM → Prop := fun v μ => ∃ x : Int64, v = some (.long x) ∧ P x μ
def mj_XR (P : Option Nat → mj_MM → Prop) : Option Value → mj_MM → Prop := fun v μ => ∃ x : Option Nat, v = some (va_rf x) ∧ P x μ
section MJ
variable {G : mj_G} {Y : mj_Y} {Ex : Option Value → mj_MM → Prop} {N S pc : Nat} {lv : List (Nat × Value)} {st : List Value} {μ : mj_MM}
theorem mj_of {y : MethodName} {as : List Value} (hp : plainName y.cls = true) (ho : y.cls = Y.1) (hi : (Y.2.2.2.2.2.2 = true → y.name = "<init>")) (hn : (lg_sl as).length ≤ Y.2.2.1) (hlv : lv_args 0 as = lv) (hb : mj_nc μ ≤ N ∧ mj_ns μ ≤ S)
    (kk : mj_J G Y (fun v μ' => Ex v μ' ∧ mj_nc μ' = N ∧ mj_ns μ' = S) N S 0 lv [] μ) : mj_M G y Y as N S μ Ex := by
  refine ⟨hb, ?_⟩
  refine Met.ofW (cc := Y.2.1) (maxL := Y.2.2.1) (ret := Y.2.2.2.2.2.1) hp rfl ?_
  intro p e s m args below meth c s₁ B hml hv
  obtain ⟨rfl, hw, hK⟩ := hv
  rw [lg_entry_eq]
  have hlocks := B.notSynchronized
  have hr := B.returns
  refine kk p e _ s m _ below meth c _ ⟨B.exec, B.bytes, hml, by rw [← ho]; exact findClass_of_methodNamed B.named, fun w h => atoms_spec B.pre w (List.mem_cons_of_mem _ h), hK, Nat.le_refl _, Nat.le_refl _, fun h => ((name_of_methodNamed B.named B.method).1).trans (hi h), ?_⟩ s.heap [] 0 0 _ hw (fun q h => by cases h) hb (by simp [headSpec]) (by simp [headSpec]) (hlv ▸ lv_entry as hn)
  intro H locs cells slots pc ls v μ' hw' hL hc hs hE hret
  refine W.widen (k := N - mj_nc μ) (n := S - mj_ns μ) hc hs ?_
  rcases hret with ⟨rfl, h1, h2⟩ | ⟨x, ty, rfl, h1, h2, h3⟩ | ⟨x, rfl, h1, h2⟩ | ⟨r, ty, rfl, h1, h2, h3⟩
  · exact W.vret B.exec B.bytes (hr.trans h1) (fun t ht _ => ⟨none, μ', rfl, hE, by rw [ht]; exact hw'⟩) hL h2
  · exact W.zret B.exec B.bytes (hr.trans h1) h2 (fun t ht _ => ⟨some (.int x), μ', rfl, hE, by rw [ht]; exact hw'⟩) hL h3
  · exact W.lret B.exec B.bytes (hr.trans h1) (fun t ht _ => ⟨some (.long x), μ', rfl, hE, by rw [ht]; exact hw'⟩) hL h2
  · exact W.aret B.exec B.bytes (hr.trans h1) h2 (by cases r with | none => exact Or.inl rfl | some a => exact Or.inr ⟨a, rfl⟩) (fun t ht _ => ⟨some (va_rf r), μ', rfl, hE, by rw [ht]; exact hw'⟩) hL h3
theorem mj_M.weaken {y : MethodName} {as : List Value} {Ex' : Option Value → mj_MM → Prop} (h : mj_M G y Y as N S μ Ex) (hE : ∀ v μ', Ex v μ' → mj_nc μ' = N → mj_ns μ' = S → Ex' v μ') : mj_M G y Y as N S μ Ex' := by
  refine ⟨h.1, ?_⟩
  intro p e h1 h2 h3 s m args below h4 h5 h6 h7
  obtain ⟨k, o, q1, q2, q3, ⟨v, μ', r1, r2, r3⟩, q5⟩ := h.2 p e h1 h2 h3 s m args below h4 h5 h6 h7
  exact ⟨k, o, q1, q2, q3, ⟨v, μ', r1, ⟨hE _ _ r2.1 r2.2.1 r2.2.2, r2.2⟩, r3⟩, q5⟩
theorem mj_lvs {lv' : List (Nat × Value)} (ks : List Nat) (hk : lv_pick lv ks = lv') (kk : mj_J G Y Ex N S pc lv' st μ) : mj_J G Y Ex N S pc lv st μ := by
  intro p e R s m args below meth c Q C H locs cells slots ls hw hL hb hc hs hl
  exact kk p e R s m args below meth c Q C H locs cells slots ls hw hL hb hc hs (lv_sub hl ks hk)
theorem mj_Exw {Ex' : Option Value → mj_MM → Prop} (hE : ∀ v μ', Ex' v μ' → Ex v μ') (kk : mj_J G Y Ex' N S pc lv st μ) : mj_J G Y Ex N S pc lv st μ := by
  intro p e R s m args below meth c Q C H locs cells slots ls hw hL hb hc hs hl
  exact kk p e R s m args below meth c Q ⟨C.1, C.2.1, C.2.2.1, C.2.2.2.1, C.2.2.2.2.1, C.2.2.2.2.2.1, C.2.2.2.2.2.2.1, C.2.2.2.2.2.2.2.1, C.2.2.2.2.2.2.2.2.1, fun H locs cells slots pc ls v μ a1 a2 a3 a4 a5 a6 => C.2.2.2.2.2.2.2.2.2 H locs cells slots pc ls v μ a1 a2 a3 a4 (hE v μ a5) a6⟩ H locs cells slots ls hw hL hb hc hs hl
theorem mj_iadd {x y : Int32} (hdg : decode Y.2.1 pc = .ok (.iadd, 1)) (kk : mj_J G Y Ex N S (pc + 1) lv (.int (x + y) :: st) μ) : mj_J G Y Ex N S pc lv (.int y :: .int x :: st) μ := by
  intro p e R s m args below meth c Q C H locs cells slots ls hw hL hb hc hs hl
  exact lv_iadd C.1 C.2.1 hdg (kk p e R s m args below meth c Q C H locs cells slots ls hw hL hb hc hs hl)
theorem mj_isub {x y : Int32} (hdg : decode Y.2.1 pc = .ok (.isub, 1)) (kk : mj_J G Y Ex N S (pc + 1) lv (.int (x - y) :: st) μ) : mj_J G Y Ex N S pc lv (.int y :: .int x :: st) μ := by
  intro p e R s m args below meth c Q C H locs cells slots ls hw hL hb hc hs hl
  exact lv_isub C.1 C.2.1 hdg (kk p e R s m args below meth c Q C H locs cells slots ls hw hL hb hc hs hl)
theorem mj_imul {x y : Int32} (hdg : decode Y.2.1 pc = .ok (.imul, 1)) (kk : mj_J G Y Ex N S (pc + 1) lv (.int (x * y) :: st) μ) : mj_J G Y Ex N S pc lv (.int y :: .int x :: st) μ := by
  intro p e R s m args below meth c Q C H locs cells slots ls hw hL hb hc hs hl
  exact lv_imul C.1 C.2.1 hdg (kk p e R s m args below meth c Q C H locs cells slots ls hw hL hb hc hs hl)
theorem mj_iand {x y : Int32} (hdg : decode Y.2.1 pc = .ok (.iand, 1)) (kk : mj_J G Y Ex N S (pc + 1) lv (.int (x &&& y) :: st) μ) : mj_J G Y Ex N S pc lv (.int y :: .int x :: st) μ := by
  intro p e R s m args below meth c Q C H locs cells slots ls hw hL hb hc hs hl
  exact lv_iand C.1 C.2.1 hdg (kk p e R s m args below meth c Q C H locs cells slots ls hw hL hb hc hs hl)
theorem mj_ior {x y : Int32} (hdg : decode Y.2.1 pc = .ok (.ior, 1)) (kk : mj_J G Y Ex N S (pc + 1) lv (.int (x ||| y) :: st) μ) : mj_J G Y Ex N S pc lv (.int y :: .int x :: st) μ := by
  intro p e R s m args below meth c Q C H locs cells slots ls hw hL hb hc hs hl
  exact lv_ior C.1 C.2.1 hdg (kk p e R s m args below meth c Q C H locs cells slots ls hw hL hb hc hs hl)
theorem mj_ixor {x y : Int32} (hdg : decode Y.2.1 pc = .ok (.ixor, 1)) (kk : mj_J G Y Ex N S (pc + 1) lv (.int (x ^^^ y) :: st) μ) : mj_J G Y Ex N S pc lv (.int y :: .int x :: st) μ := by
  intro p e R s m args below meth c Q C H locs cells slots ls hw hL hb hc hs hl
  exact lv_ixor C.1 C.2.1 hdg (kk p e R s m args below meth c Q C H locs cells slots ls hw hL hb hc hs hl)
theorem mj_ladd {x y : Int64} (hdg : decode Y.2.1 pc = .ok (.ladd, 1)) (kk : mj_J G Y Ex N S (pc + 1) lv (.long (x + y) :: st) μ) : mj_J G Y Ex N S pc lv (.long y :: .long x :: st) μ := by
  intro p e R s m args below meth c Q C H locs cells slots ls hw hL hb hc hs hl
  exact lv_ladd C.1 C.2.1 hdg (kk p e R s m args below meth c Q C H locs cells slots ls hw hL hb hc hs hl)
theorem mj_lsub {x y : Int64} (hdg : decode Y.2.1 pc = .ok (.lsub, 1)) (kk : mj_J G Y Ex N S (pc + 1) lv (.long (x - y) :: st) μ) : mj_J G Y Ex N S pc lv (.long y :: .long x :: st) μ := by
  intro p e R s m args below meth c Q C H locs cells slots ls hw hL hb hc hs hl
  exact lv_lsub C.1 C.2.1 hdg (kk p e R s m args below meth c Q C H locs cells slots ls hw hL hb hc hs hl)
theorem mj_lmul {x y : Int64} (hdg : decode Y.2.1 pc = .ok (.lmul, 1)) (kk : mj_J G Y Ex N S (pc + 1) lv (.long (x * y) :: st) μ) : mj_J G Y Ex N S pc lv (.long y :: .long x :: st) μ := by
  intro p e R s m args below meth c Q C H locs cells slots ls hw hL hb hc hs hl
  exact lv_lmul C.1 C.2.1 hdg (kk p e R s m args below meth c Q C H locs cells slots ls hw hL hb hc hs hl)
theorem mj_land {x y : Int64} (hdg : decode Y.2.1 pc = .ok (.land, 1)) (kk : mj_J G Y Ex N S (pc + 1) lv (.long (x &&& y) :: st) μ) : mj_J G Y Ex N S pc lv (.long y :: .long x :: st) μ := by
  intro p e R s m args below meth c Q C H locs cells slots ls hw hL hb hc hs hl
  exact lv_land C.1 C.2.1 hdg (kk p e R s m args below meth c Q C H locs cells slots ls hw hL hb hc hs hl)
theorem mj_lor {x y : Int64} (hdg : decode Y.2.1 pc = .ok (.lor, 1)) (kk : mj_J G Y Ex N S (pc + 1) lv (.long (x ||| y) :: st) μ) : mj_J G Y Ex N S pc lv (.long y :: .long x :: st) μ := by
  intro p e R s m args below meth c Q C H locs cells slots ls hw hL hb hc hs hl
  exact lv_lor C.1 C.2.1 hdg (kk p e R s m args below meth c Q C H locs cells slots ls hw hL hb hc hs hl)
theorem mj_lxor {x y : Int64} (hdg : decode Y.2.1 pc = .ok (.lxor, 1)) (kk : mj_J G Y Ex N S (pc + 1) lv (.long (x ^^^ y) :: st) μ) : mj_J G Y Ex N S pc lv (.long y :: .long x :: st) μ := by
  intro p e R s m args below meth c Q C H locs cells slots ls hw hL hb hc hs hl
  exact lv_lxor C.1 C.2.1 hdg (kk p e R s m args below meth c Q C H locs cells slots ls hw hL hb hc hs hl)
theorem mj_idiv {x y : Int32} (hdg : decode Y.2.1 pc = .ok (.idiv, 1)) (hy : ¬ y = 0) (kk : mj_J G Y Ex N S (pc + 1) lv (.int (x / y) :: st) μ) : mj_J G Y Ex N S pc lv (.int y :: .int x :: st) μ := by
  intro p e R s m args below meth c Q C H locs cells slots ls hw hL hb hc hs hl
  exact lv_idiv C.1 C.2.1 hdg hy (kk p e R s m args below meth c Q C H locs cells slots ls hw hL hb hc hs hl)
theorem mj_irem {x y : Int32} (hdg : decode Y.2.1 pc = .ok (.irem, 1)) (hy : ¬ y = 0) (kk : mj_J G Y Ex N S (pc + 1) lv (.int (x - x / y * y) :: st) μ) : mj_J G Y Ex N S pc lv (.int y :: .int x :: st) μ := by
  intro p e R s m args below meth c Q C H locs cells slots ls hw hL hb hc hs hl
  exact lv_irem C.1 C.2.1 hdg hy (kk p e R s m args below meth c Q C H locs cells slots ls hw hL hb hc hs hl)
theorem mj_ldiv {x y : Int64} (hdg : decode Y.2.1 pc = .ok (.ldiv, 1)) (hy : ¬ y = 0) (kk : mj_J G Y Ex N S (pc + 1) lv (.long (x / y) :: st) μ) : mj_J G Y Ex N S pc lv (.long y :: .long x :: st) μ := by
  intro p e R s m args below meth c Q C H locs cells slots ls hw hL hb hc hs hl
  exact lv_ldiv C.1 C.2.1 hdg hy (kk p e R s m args below meth c Q C H locs cells slots ls hw hL hb hc hs hl)
theorem mj_lrem {x y : Int64} (hdg : decode Y.2.1 pc = .ok (.lrem, 1)) (hy : ¬ y = 0) (kk : mj_J G Y Ex N S (pc + 1) lv (.long (x - x / y * y) :: st) μ) : mj_J G Y Ex N S pc lv (.long y :: .long x :: st) μ := by
  intro p e R s m args below meth c Q C H locs cells slots ls hw hL hb hc hs hl
  exact lv_lrem C.1 C.2.1 hdg hy (kk p e R s m args below meth c Q C H locs cells slots ls hw hL hb hc hs hl)
theorem mj_ineg {x : Int32} (hdg : decode Y.2.1 pc = .ok (.ineg, 1)) (kk : mj_J G Y Ex N S (pc + 1) lv (.int (-x) :: st) μ) : mj_J G Y Ex N S pc lv (.int x :: st) μ := by
  intro p e R s m args below meth c Q C H locs cells slots ls hw hL hb hc hs hl
  exact lv_ineg C.1 C.2.1 hdg (kk p e R s m args below meth c Q C H locs cells slots ls hw hL hb hc hs hl)
theorem mj_lneg {x : Int64} (hdg : decode Y.2.1 pc = .ok (.lneg, 1)) (kk : mj_J G Y Ex N S (pc + 1) lv (.long (-x) :: st) μ) : mj_J G Y Ex N S pc lv (.long x :: st) μ := by
  intro p e R s m args below meth c Q C H locs cells slots ls hw hL hb hc hs hl
  exact lv_lneg C.1 C.2.1 hdg (kk p e R s m args below meth c Q C H locs cells slots ls hw hL hb hc hs hl)
theorem mj_i2l {x : Int32} (hdg : decode Y.2.1 pc = .ok (.i2l, 1)) (kk : mj_J G Y Ex N S (pc + 1) lv (.long (x.toInt64) :: st) μ) : mj_J G Y Ex N S pc lv (.int x :: st) μ := by
  intro p e R s m args below meth c Q C H locs cells slots ls hw hL hb hc hs hl
  exact lv_i2l C.1 C.2.1 hdg rfl (kk p e R s m args below meth c Q C H locs cells slots ls hw hL hb hc hs hl)
theorem mj_l2i {x : Int64} (hdg : decode Y.2.1 pc = .ok (.l2i, 1)) (kk : mj_J G Y Ex N S (pc + 1) lv (.int (x.toInt32) :: st) μ) : mj_J G Y Ex N S pc lv (.long x :: st) μ := by
  intro p e R s m args below meth c Q C H locs cells slots ls hw hL hb hc hs hl
  exact lv_l2i C.1 C.2.1 hdg rfl (kk p e R s m args below meth c Q C H locs cells slots ls hw hL hb hc hs hl)
theorem mj_i2s {x : Int32} (hdg : decode Y.2.1 pc = .ok (.i2s, 1)) (kk : mj_J G Y Ex N S (pc + 1) lv (.int x.toInt16.toInt32 :: st) μ) : mj_J G Y Ex N S pc lv (.int x :: st) μ := by
  intro p e R s m args below meth c Q C H locs cells slots ls hw hL hb hc hs hl
  exact lv_i2s C.1 C.2.1 hdg rfl (kk p e R s m args below meth c Q C H locs cells slots ls hw hL hb hc hs hl)
theorem mj_ishl {x y : Int32} (hdg : decode Y.2.1 pc = .ok (.ishl, 1)) (kk : mj_J G Y Ex N S (pc + 1) lv (.int (x <<< (y &&& 31)) :: st) μ) : mj_J G Y Ex N S pc lv (.int y :: .int x :: st) μ := by
  intro p e R s m args below meth c Q C H locs cells slots ls hw hL hb hc hs hl
  exact lv_ishl C.1 C.2.1 hdg (kk p e R s m args below meth c Q C H locs cells slots ls hw hL hb hc hs hl)
theorem mj_ishr {x y : Int32} (hdg : decode Y.2.1 pc = .ok (.ishr, 1)) (kk : mj_J G Y Ex N S (pc + 1) lv (.int (x >>> (y &&& 31)) :: st) μ) : mj_J G Y Ex N S pc lv (.int y :: .int x :: st) μ := by
  intro p e R s m args below meth c Q C H locs cells slots ls hw hL hb hc hs hl
  exact lv_ishr C.1 C.2.1 hdg (kk p e R s m args below meth c Q C H locs cells slots ls hw hL hb hc hs hl)
theorem mj_lshl {x : Int64} {y : Int32} (hdg : decode Y.2.1 pc = .ok (.lshl, 1)) (kk : mj_J G Y Ex N S (pc + 1) lv (.long (x <<< (y.toInt64 &&& 63)) :: st) μ) : mj_J G Y Ex N S pc lv (.int y :: .long x :: st) μ := by
  intro p e R s m args below meth c Q C H locs cells slots ls hw hL hb hc hs hl
  exact lv_lshl C.1 C.2.1 hdg rfl (kk p e R s m args below meth c Q C H locs cells slots ls hw hL hb hc hs hl)
theorem mj_lshr {x : Int64} {y : Int32} (hdg : decode Y.2.1 pc = .ok (.lshr, 1)) (kk : mj_J G Y Ex N S (pc + 1) lv (.long (x >>> (y.toInt64 &&& 63)) :: st) μ) : mj_J G Y Ex N S pc lv (.int y :: .long x :: st) μ := by
  intro p e R s m args below meth c Q C H locs cells slots ls hw hL hb hc hs hl
  exact lv_lshr C.1 C.2.1 hdg rfl (kk p e R s m args below meth c Q C H locs cells slots ls hw hL hb hc hs hl)
theorem mj_lcmp {x y : Int64} (hdg : decode Y.2.1 pc = .ok (.lcmp, 1)) (kk : mj_J G Y Ex N S (pc + 1) lv (.int (lg_cmp x y) :: st) μ) : mj_J G Y Ex N S pc lv (.long y :: .long x :: st) μ := by
  intro p e R s m args below meth c Q C H locs cells slots ls hw hL hb hc hs hl
  exact W.lcmp C.1 C.2.1 hdg (kk p e R s m args below meth c Q C H locs cells slots ls hw hL hb hc hs hl)
theorem mj_iconst {n : Int} {v : Int32} (hdg : decode Y.2.1 pc = .ok (.iconst n, 1)) (hv : Int32.ofInt n = v) (kk : mj_J G Y Ex N S (pc + 1) lv (.int v :: st) μ) : mj_J G Y Ex N S pc lv st μ := by
  intro p e R s m args below meth c Q C H locs cells slots ls hw hL hb hc hs hl
  exact lv_iconst C.1 C.2.1 hdg hv (kk p e R s m args below meth c Q C H locs cells slots ls hw hL hb hc hs hl)
theorem mj_bipush {n : Int} {v : Int32} (hdg : decode Y.2.1 pc = .ok (.bipush n, 2)) (hv : (Int8.ofInt n).toInt32 = v) (kk : mj_J G Y Ex N S (pc + 2) lv (.int v :: st) μ) : mj_J G Y Ex N S pc lv st μ := by
  intro p e R s m args below meth c Q C H locs cells slots ls hw hL hb hc hs hl
  exact lv_bipush C.1 C.2.1 hdg hv (kk p e R s m args below meth c Q C H locs cells slots ls hw hL hb hc hs hl)
theorem mj_sipush {n : Int} {v : Int32} (hdg : decode Y.2.1 pc = .ok (.sipush n, 3)) (hv : (Int16.ofInt n).toInt32 = v) (kk : mj_J G Y Ex N S (pc + 3) lv (.int v :: st) μ) : mj_J G Y Ex N S pc lv st μ := by
  intro p e R s m args below meth c Q C H locs cells slots ls hw hL hb hc hs hl
  exact lv_sipush C.1 C.2.1 hdg hv (kk p e R s m args below meth c Q C H locs cells slots ls hw hL hb hc hs hl)
theorem mj_lconst {n : Fin 2} {v : Int64} (hdg : decode Y.2.1 pc = .ok (.lconst n, 1)) (hv : Int64.ofNat (n : Nat) = v) (kk : mj_J G Y Ex N S (pc + 1) lv (.long v :: st) μ) : mj_J G Y Ex N S pc lv st μ := by
  intro p e R s m args below meth c Q C H locs cells slots ls hw hL hb hc hs hl
  exact lv_lconst C.1 C.2.1 hdg hv (kk p e R s m args below meth c Q C H locs cells slots ls hw hL hb hc hs hl)
theorem mj_null (hdg : decode Y.2.1 pc = .ok (.aconst_null, 1)) (kk : mj_J G Y Ex N S (pc + 1) lv (va_rf none :: st) μ) : mj_J G Y Ex N S pc lv st μ := by
  intro p e R s m args below meth c Q C H locs cells slots ls hw hL hb hc hs hl
  exact lv_null C.1 C.2.1 hdg (kk p e R s m args below meth c Q C H locs cells slots ls hw hL hb hc hs hl)
theorem mj_ldc {index : Nat} {v : Int32} (hw0 : Cond.constant Y.1 index v ∈ md_Ts) (hdg : decode Y.2.1 pc = .ok (.ldc index, 2)) (kk : mj_J G Y Ex N S (pc + 2) lv (.int v :: st) μ) : mj_J G Y Ex N S pc lv st μ := by
  intro p e R s m args below meth c Q C H locs cells slots ls hw hL hb hc hs hl
  exact lv_ldc C.1 C.2.1 C.2.2.2.1 (C.2.2.2.2.1 _ hw0) hdg (kk p e R s m args below meth c Q C H locs cells slots ls hw hL hb hc hs hl)
theorem mj_ldcw {index : Nat} {v : Int32} (hw0 : Cond.constant Y.1 index v ∈ md_Ts) (hdg : decode Y.2.1 pc = .ok (.ldc_w index, 3)) (kk : mj_J G Y Ex N S (pc + 3) lv (.int v :: st) μ) : mj_J G Y Ex N S pc lv st μ := by
  intro p e R s m args below meth c Q C H locs cells slots ls hw hL hb hc hs hl
  exact lv_ldcw C.1 C.2.1 C.2.2.2.1 (C.2.2.2.2.1 _ hw0) hdg (kk p e R s m args below meth c Q C H locs cells slots ls hw hL hb hc hs hl)
theorem mj_ldc2 {index : Nat} {v : Int64} (hw0 : Cond.constantLong Y.1 index v ∈ md_Ts) (hdg : decode Y.2.1 pc = .ok (.ldc2_w index, 3)) (kk : mj_J G Y Ex N S (pc + 3) lv (.long v :: st) μ) : mj_J G Y Ex N S pc lv st μ := by
  intro p e R s m args below meth c Q C H locs cells slots ls hw hL hb hc hs hl
  exact lv_ldc2 C.1 C.2.1 C.2.2.2.1 (C.2.2.2.2.1 _ hw0) hdg (kk p e R s m args below meth c Q C H locs cells slots ls hw hL hb hc hs hl)
theorem mj_rfc (r : Option Nat) : (va_rf r).category = 1 := by cases r <;> rfl
theorem mj_dup {va : Value} (hdg : decode Y.2.1 pc = .ok (.dup, 1)) (hva : va.category = 1) (kk : mj_J G Y Ex N S (pc + 1) lv (va :: va :: st) μ) : mj_J G Y Ex N S pc lv (va :: st) μ := by
  intro p e R s m args below meth c Q C H locs cells slots ls hw hL hb hc hs hl
  exact lv_dup C.1 C.2.1 hdg hva (kk p e R s m args below meth c Q C H locs cells slots ls hw hL hb hc hs hl)
theorem mj_pop {va : Value} (hdg : decode Y.2.1 pc = .ok (.pop, 1)) (hva : va.category = 1) (kk : mj_J G Y Ex N S (pc + 1) lv st μ) : mj_J G Y Ex N S pc lv (va :: st) μ := by
  intro p e R s m args below meth c Q C H locs cells slots ls hw hL hb hc hs hl
  exact lv_pop C.1 C.2.1 hdg hva (kk p e R s m args below meth c Q C H locs cells slots ls hw hL hb hc hs hl)
theorem mj_pop2 {va : Value} (hdg : decode Y.2.1 pc = .ok (.pop2, 1)) (hva : va.category = 2) (kk : mj_J G Y Ex N S (pc + 1) lv st μ) : mj_J G Y Ex N S pc lv (va :: st) μ := by
  intro p e R s m args below meth c Q C H locs cells slots ls hw hL hb hc hs hl
  exact lv_pop2_2 C.1 C.2.1 hdg hva (kk p e R s m args below meth c Q C H locs cells slots ls hw hL hb hc hs hl)
theorem mj_dup_x1 {va vb : Value} (hdg : decode Y.2.1 pc = .ok (.dup_x1, 1)) (hva : va.category = 1) (hvb : vb.category = 1) (kk : mj_J G Y Ex N S (pc + 1) lv (va :: vb :: va :: st) μ) : mj_J G Y Ex N S pc lv (va :: vb :: st) μ := by
  intro p e R s m args below meth c Q C H locs cells slots ls hw hL hb hc hs hl
  exact lv_dup_x1 C.1 C.2.1 hdg hva hvb (kk p e R s m args below meth c Q C H locs cells slots ls hw hL hb hc hs hl)
theorem mj_dup_x2 {va vb vd : Value} (hdg : decode Y.2.1 pc = .ok (.dup_x2, 1)) (hva : va.category = 1) (hvb : vb.category = 1) (hvd : vd.category = 1) (kk : mj_J G Y Ex N S (pc + 1) lv (va :: vb :: vd :: va :: st) μ) : mj_J G Y Ex N S pc lv (va :: vb :: vd :: st) μ := by
  intro p e R s m args below meth c Q C H locs cells slots ls hw hL hb hc hs hl
  exact lv_dup_x2 C.1 C.2.1 hdg hva hvb hvd (kk p e R s m args below meth c Q C H locs cells slots ls hw hL hb hc hs hl)
theorem mj_dup2 {va vb : Value} (hdg : decode Y.2.1 pc = .ok (.dup2, 1)) (hva : va.category = 1) (hvb : vb.category = 1) (kk : mj_J G Y Ex N S (pc + 1) lv (va :: vb :: va :: vb :: st) μ) : mj_J G Y Ex N S pc lv (va :: vb :: st) μ := by
  intro p e R s m args below meth c Q C H locs cells slots ls hw hL hb hc hs hl
  exact lv_dup2_11 C.1 C.2.1 hdg hva hvb (kk p e R s m args below meth c Q C H locs cells slots ls hw hL hb hc hs hl)
theorem mj_iload_n {k : Fin 4} {x : Int32} (j : Nat) (hdg : decode Y.2.1 pc = .ok (.iload_n k, 1)) (hj : lv[j]? = some ((k : Nat), .int x)) (kk : mj_J G Y Ex N S (pc + 1) lv (.int x :: st) μ) : mj_J G Y Ex N S pc lv st μ := by
  intro p e R s m args below meth c Q C H locs cells slots ls hw hL hb hc hs hl
  exact lv_iload_n C.1 C.2.1 hdg rfl (lv_at hl j hj) (kk p e R s m args below meth c Q C H locs cells slots ls hw hL hb hc hs hl)
theorem mj_iload {i : Nat} {x : Int32} (j : Nat) (hdg : decode Y.2.1 pc = .ok (.iload i, 2)) (hj : lv[j]? = some (i, .int x)) (kk : mj_J G Y Ex N S (pc + 2) lv (.int x :: st) μ) : mj_J G Y Ex N S pc lv st μ := by
  intro p e R s m args below meth c Q C H locs cells slots ls hw hL hb hc hs hl
  exact lv_iload C.1 C.2.1 hdg (lv_at hl j hj) (kk p e R s m args below meth c Q C H locs cells slots ls hw hL hb hc hs hl)
theorem mj_lload_n {k : Fin 4} {x : Int64} (j : Nat) (hdg : decode Y.2.1 pc = .ok (.lload_n k, 1)) (hj : lv[j]? = some ((k : Nat), .long x)) (kk : mj_J G Y Ex N S (pc + 1) lv (.long x :: st) μ) : mj_J G Y Ex N S pc lv st μ := by
  intro p e R s m args below meth c Q C H locs cells slots ls hw hL hb hc hs hl
  exact lv_lload_n C.1 C.2.1 hdg rfl (lv_at hl j hj) (kk p e R s m args below meth c Q C H locs cells slots ls hw hL hb hc hs hl)
theorem mj_lload {i : Nat} {x : Int64} (j : Nat) (hdg : decode Y.2.1 pc = .ok (.lload i, 2)) (hj : lv[j]? = some (i, .long x)) (kk : mj_J G Y Ex N S (pc + 2) lv (.long x :: st) μ) : mj_J G Y Ex N S pc lv st μ := by
  intro p e R s m args below meth c Q C H locs cells slots ls hw hL hb hc hs hl
  exact lv_lload C.1 C.2.1 hdg (lv_at hl j hj) (kk p e R s m args below meth c Q C H locs cells slots ls hw hL hb hc hs hl)
theorem mj_aload_n {k : Fin 4} {r : Option Nat} (j : Nat) (hdg : decode Y.2.1 pc = .ok (.aload_n k, 1)) (hj : lv[j]? = some ((k : Nat), va_rf r)) (kk : mj_J G Y Ex N S (pc + 1) lv (va_rf r :: st) μ) : mj_J G Y Ex N S pc lv st μ := by
  intro p e R s m args below meth c Q C H locs cells slots ls hw hL hb hc hs hl
  cases r with
  | none => exact lv_aload_nN C.1 C.2.1 hdg rfl (lv_at hl j hj) (kk p e R s m args below meth c Q C H locs cells slots ls hw hL hb hc hs hl)
  | some a => exact lv_aload_n C.1 C.2.1 hdg rfl (lv_at hl j hj) (kk p e R s m args below meth c Q C H locs cells slots ls hw hL hb hc hs hl)
theorem mj_aload {i : Nat} {r : Option Nat} (j : Nat) (hdg : decode Y.2.1 pc = .ok (.aload i, 2)) (hj : lv[j]? = some (i, va_rf r)) (kk : mj_J G Y Ex N S (pc + 2) lv (va_rf r :: st) μ) : mj_J G Y Ex N S pc lv st μ := by
  intro p e R s m args below meth c Q C H locs cells slots ls hw hL hb hc hs hl
  cases r with
  | none => exact lv_aloadN C.1 C.2.1 hdg (lv_at hl j hj) (kk p e R s m args below meth c Q C H locs cells slots ls hw hL hb hc hs hl)
  | some a => exact lv_aload C.1 C.2.1 hdg (lv_at hl j hj) (kk p e R s m args below meth c Q C H locs cells slots ls hw hL hb hc hs hl)
theorem mj_istore_n {k : Fin 4} {x : Int32} {lv' : List (Nat × Value)} (hdg : decode Y.2.1 pc = .ok (.istore_n k, 1)) (hn : (k : Nat) < Y.2.2.1) (hv : ((k : Nat), Value.int x) :: lv.filter (fun q => !(q.1 == (k : Nat)) && !(q.1 + 1 == (k : Nat) && q.2.category == 2)) = lv') (kk : mj_J G Y Ex N S (pc + 1) lv' st μ) : mj_J G Y Ex N S pc lv (.int x :: st) μ := by
  intro p e R s m args below meth c Q C H locs cells slots ls hw hL hb hc hs hl
  exact lv_istore_n C.1 C.2.1 hdg rfl hl hn hv (fun ls2 hl2 => kk p e R s m args below meth c Q C H locs cells slots ls2 hw hL hb hc hs hl2)
theorem mj_istore {i : Nat} {x : Int32} {lv' : List (Nat × Value)} (hdg : decode Y.2.1 pc = .ok (.istore i, 2)) (hn : i < Y.2.2.1) (hv : (i, Value.int x) :: lv.filter (fun q => !(q.1 == i) && !(q.1 + 1 == i && q.2.category == 2)) = lv') (kk : mj_J G Y Ex N S (pc + 2) lv' st μ) : mj_J G Y Ex N S pc lv (.int x :: st) μ := by
  intro p e R s m args below meth c Q C H locs cells slots ls hw hL hb hc hs hl
  exact lv_istore C.1 C.2.1 hdg hl hn hv (fun ls2 hl2 => kk p e R s m args below meth c Q C H locs cells slots ls2 hw hL hb hc hs hl2)
theorem mj_lstore_n {k : Fin 4} {x : Int64} {lv' : List (Nat × Value)} (hdg : decode Y.2.1 pc = .ok (.lstore_n k, 1)) (hn : (k : Nat) + 1 < Y.2.2.1) (hv : ((k : Nat), Value.long x) :: lv.filter (fun q => !(q.1 == (k : Nat)) && (!(q.1 == (k : Nat) + 1) && !(q.1 + 1 == (k : Nat) && q.2.category == 2))) = lv') (kk : mj_J G Y Ex N S (pc + 1) lv' st μ) : mj_J G Y Ex N S pc lv (.long x :: st) μ := by
  intro p e R s m args below meth c Q C H locs cells slots ls hw hL hb hc hs hl
  exact lv_lstore_n C.1 C.2.1 hdg rfl hl hn hv (fun ls2 hl2 => kk p e R s m args below meth c Q C H locs cells slots ls2 hw hL hb hc hs hl2)
theorem mj_lstore {i : Nat} {x : Int64} {lv' : List (Nat × Value)} (hdg : decode Y.2.1 pc = .ok (.lstore i, 2)) (hn : i + 1 < Y.2.2.1) (hv : (i, Value.long x) :: lv.filter (fun q => !(q.1 == i) && (!(q.1 == i + 1) && !(q.1 + 1 == i && q.2.category == 2))) = lv') (kk : mj_J G Y Ex N S (pc + 2) lv' st μ) : mj_J G Y Ex N S pc lv (.long x :: st) μ := by
  intro p e R s m args below meth c Q C H locs cells slots ls hw hL hb hc hs hl
  exact lv_lstore C.1 C.2.1 hdg hl hn hv (fun ls2 hl2 => kk p e R s m args below meth c Q C H locs cells slots ls2 hw hL hb hc hs hl2)
theorem mj_astore_n {k : Fin 4} {r : Option Nat} {lv' : List (Nat × Value)} (hdg : decode Y.2.1 pc = .ok (.astore_n k, 1)) (hn : (k : Nat) < Y.2.2.1) (hv : ((k : Nat), va_rf r) :: lv.filter (fun q => !(q.1 == (k : Nat)) && !(q.1 + 1 == (k : Nat) && q.2.category == 2)) = lv') (kk : mj_J G Y Ex N S (pc + 1) lv' st μ) : mj_J G Y Ex N S pc lv (va_rf r :: st) μ := by
  intro p e R s m args below meth c Q C H locs cells slots ls hw hL hb hc hs hl
  cases r with
  | none => exact lv_astore_nN C.1 C.2.1 hdg rfl hl hn hv (fun ls2 hl2 => kk p e R s m args below meth c Q C H locs cells slots ls2 hw hL hb hc hs hl2)
  | some a => exact lv_astore_n C.1 C.2.1 hdg rfl hl hn hv (fun ls2 hl2 => kk p e R s m args below meth c Q C H locs cells slots ls2 hw hL hb hc hs hl2)
theorem mj_astore {i : Nat} {r : Option Nat} {lv' : List (Nat × Value)} (hdg : decode Y.2.1 pc = .ok (.astore i, 2)) (hn : i < Y.2.2.1) (hv : (i, va_rf r) :: lv.filter (fun q => !(q.1 == i) && !(q.1 + 1 == i && q.2.category == 2)) = lv') (kk : mj_J G Y Ex N S (pc + 2) lv' st μ) : mj_J G Y Ex N S pc lv (va_rf r :: st) μ := by
  intro p e R s m args below meth c Q C H locs cells slots ls hw hL hb hc hs hl
  cases r with
  | none => exact lv_astoreN C.1 C.2.1 hdg hl hn hv (fun ls2 hl2 => kk p e R s m args below meth c Q C H locs cells slots ls2 hw hL hb hc hs hl2)
  | some a => exact lv_astore C.1 C.2.1 hdg hl hn hv (fun ls2 hl2 => kk p e R s m args below meth c Q C H locs cells slots ls2 hw hL hb hc hs hl2)
theorem mj_iinc {i j : Nat} {n : Int} {x v : Int32} {lv' : List (Nat × Value)} (hdg : decode Y.2.1 pc = .ok (.iinc i n, 3)) (hj : lv[j]? = some (i, .int x)) (he : x + Int32.ofInt n = v) (hn : i < Y.2.2.1) (hv : (i, Value.int v) :: lv.filter (fun q => !(q.1 == i) && !(q.1 + 1 == i && q.2.category == 2)) = lv') (kk : mj_J G Y Ex N S (pc + 3) lv' st μ) : mj_J G Y Ex N S pc lv st μ := by
  intro p e R s m args below meth c Q C H locs cells slots ls hw hL hb hc hs hl
  exact lv_iinc C.1 C.2.1 hdg hl hj he hn hv (fun ls2 hl2 => kk p e R s m args below meth c Q C H locs cells slots ls2 hw hL hb hc hs hl2)
theorem mj_goto {off : Int} {tgt : Nat} (hdg : decode Y.2.1 pc = .ok (.goto off, 3)) (ht : (pc : Int) + off = (tgt : Int)) (kk : mj_J G Y Ex N S tgt lv st μ) : mj_J G Y Ex N S pc lv st μ := by
  intro p e R s m args below meth c Q C H locs cells slots ls hw hL hb hc hs hl
  exact lv_goto C.1 C.2.1 hdg ht (kk p e R s m args below meth c Q C H locs cells slots ls hw hL hb hc hs hl)
theorem mj_if_eq {x : Int32} {off : Int} {tgt : Nat} (hdg : decode Y.2.1 pc = .ok (.ifCond .eq off, 3)) (ht : (pc : Int) + off = (tgt : Int)) (kt : x = 0 → mj_J G Y Ex N S tgt lv st μ) (kf : ¬ x = 0 → mj_J G Y Ex N S (pc + 3) lv st μ) : mj_J G Y Ex N S pc lv (.int x :: st) μ := by
  intro p e R s m args below meth c Q C H locs cells slots ls hw hL hb hc hs hl
  exact lv_if_eq C.1 C.2.1 hdg ht (fun h => kt h p e R s m args below meth c Q C H locs cells slots ls hw hL hb hc hs hl) (fun h => kf h p e R s m args below meth c Q C H locs cells slots ls hw hL hb hc hs hl)
theorem mj_if_ne {x : Int32} {off : Int} {tgt : Nat} (hdg : decode Y.2.1 pc = .ok (.ifCond .ne off, 3)) (ht : (pc : Int) + off = (tgt : Int)) (kt : ¬ x = 0 → mj_J G Y Ex N S tgt lv st μ) (kf : x = 0 → mj_J G Y Ex N S (pc + 3) lv st μ) : mj_J G Y Ex N S pc lv (.int x :: st) μ := by
  intro p e R s m args below meth c Q C H locs cells slots ls hw hL hb hc hs hl
  exact lv_if_ne C.1 C.2.1 hdg ht (fun h => kt h p e R s m args below meth c Q C H locs cells slots ls hw hL hb hc hs hl) (fun h => kf h p e R s m args below meth c Q C H locs cells slots ls hw hL hb hc hs hl)
theorem mj_if_lt {x : Int32} {off : Int} {tgt : Nat} (hdg : decode Y.2.1 pc = .ok (.ifCond .lt off, 3)) (ht : (pc : Int) + off = (tgt : Int)) (kt : x < 0 → mj_J G Y Ex N S tgt lv st μ) (kf : ¬ x < 0 → mj_J G Y Ex N S (pc + 3) lv st μ) : mj_J G Y Ex N S pc lv (.int x :: st) μ := by
  intro p e R s m args below meth c Q C H locs cells slots ls hw hL hb hc hs hl
  exact lv_if_lt C.1 C.2.1 hdg ht (fun h => kt h p e R s m args below meth c Q C H locs cells slots ls hw hL hb hc hs hl) (fun h => kf h p e R s m args below meth c Q C H locs cells slots ls hw hL hb hc hs hl)
theorem mj_if_ge {x : Int32} {off : Int} {tgt : Nat} (hdg : decode Y.2.1 pc = .ok (.ifCond .ge off, 3)) (ht : (pc : Int) + off = (tgt : Int)) (kt : 0 ≤ x → mj_J G Y Ex N S tgt lv st μ) (kf : ¬ 0 ≤ x → mj_J G Y Ex N S (pc + 3) lv st μ) : mj_J G Y Ex N S pc lv (.int x :: st) μ := by
  intro p e R s m args below meth c Q C H locs cells slots ls hw hL hb hc hs hl
  exact lv_if_ge C.1 C.2.1 hdg ht (fun h => kt h p e R s m args below meth c Q C H locs cells slots ls hw hL hb hc hs hl) (fun h => kf h p e R s m args below meth c Q C H locs cells slots ls hw hL hb hc hs hl)
theorem mj_if_gt {x : Int32} {off : Int} {tgt : Nat} (hdg : decode Y.2.1 pc = .ok (.ifCond .gt off, 3)) (ht : (pc : Int) + off = (tgt : Int)) (kt : 0 < x → mj_J G Y Ex N S tgt lv st μ) (kf : ¬ 0 < x → mj_J G Y Ex N S (pc + 3) lv st μ) : mj_J G Y Ex N S pc lv (.int x :: st) μ := by
  intro p e R s m args below meth c Q C H locs cells slots ls hw hL hb hc hs hl
  exact lv_if_gt C.1 C.2.1 hdg ht (fun h => kt h p e R s m args below meth c Q C H locs cells slots ls hw hL hb hc hs hl) (fun h => kf h p e R s m args below meth c Q C H locs cells slots ls hw hL hb hc hs hl)
theorem mj_if_le {x : Int32} {off : Int} {tgt : Nat} (hdg : decode Y.2.1 pc = .ok (.ifCond .le off, 3)) (ht : (pc : Int) + off = (tgt : Int)) (kt : x ≤ 0 → mj_J G Y Ex N S tgt lv st μ) (kf : ¬ x ≤ 0 → mj_J G Y Ex N S (pc + 3) lv st μ) : mj_J G Y Ex N S pc lv (.int x :: st) μ := by
  intro p e R s m args below meth c Q C H locs cells slots ls hw hL hb hc hs hl
  exact lv_if_le C.1 C.2.1 hdg ht (fun h => kt h p e R s m args below meth c Q C H locs cells slots ls hw hL hb hc hs hl) (fun h => kf h p e R s m args below meth c Q C H locs cells slots ls hw hL hb hc hs hl)
theorem mj_icmp_eq {x y : Int32} {off : Int} {tgt : Nat} (hdg : decode Y.2.1 pc = .ok (.if_icmp .eq off, 3)) (ht : (pc : Int) + off = (tgt : Int)) (kt : x = y → mj_J G Y Ex N S tgt lv st μ) (kf : ¬ x = y → mj_J G Y Ex N S (pc + 3) lv st μ) : mj_J G Y Ex N S pc lv (.int y :: .int x :: st) μ := by
  intro p e R s m args below meth c Q C H locs cells slots ls hw hL hb hc hs hl
  exact lv_icmp_eq C.1 C.2.1 hdg ht (fun h => kt h p e R s m args below meth c Q C H locs cells slots ls hw hL hb hc hs hl) (fun h => kf h p e R s m args below meth c Q C H locs cells slots ls hw hL hb hc hs hl)
theorem mj_icmp_ne {x y : Int32} {off : Int} {tgt : Nat} (hdg : decode Y.2.1 pc = .ok (.if_icmp .ne off, 3)) (ht : (pc : Int) + off = (tgt : Int)) (kt : ¬ x = y → mj_J G Y Ex N S tgt lv st μ) (kf : x = y → mj_J G Y Ex N S (pc + 3) lv st μ) : mj_J G Y Ex N S pc lv (.int y :: .int x :: st) μ := by
  intro p e R s m args below meth c Q C H locs cells slots ls hw hL hb hc hs hl
  exact lv_icmp_ne C.1 C.2.1 hdg ht (fun h => kt h p e R s m args below meth c Q C H locs cells slots ls hw hL hb hc hs hl) (fun h => kf h p e R s m args below meth c Q C H locs cells slots ls hw hL hb hc hs hl)
theorem mj_icmp_lt {x y : Int32} {off : Int} {tgt : Nat} (hdg : decode Y.2.1 pc = .ok (.if_icmp .lt off, 3)) (ht : (pc : Int) + off = (tgt : Int)) (kt : x < y → mj_J G Y Ex N S tgt lv st μ) (kf : ¬ x < y → mj_J G Y Ex N S (pc + 3) lv st μ) : mj_J G Y Ex N S pc lv (.int y :: .int x :: st) μ := by
  intro p e R s m args below meth c Q C H locs cells slots ls hw hL hb hc hs hl
  exact lv_icmp_lt C.1 C.2.1 hdg ht (fun h => kt h p e R s m args below meth c Q C H locs cells slots ls hw hL hb hc hs hl) (fun h => kf h p e R s m args below meth c Q C H locs cells slots ls hw hL hb hc hs hl)
theorem mj_icmp_ge {x y : Int32} {off : Int} {tgt : Nat} (hdg : decode Y.2.1 pc = .ok (.if_icmp .ge off, 3)) (ht : (pc : Int) + off = (tgt : Int)) (kt : y ≤ x → mj_J G Y Ex N S tgt lv st μ) (kf : ¬ y ≤ x → mj_J G Y Ex N S (pc + 3) lv st μ) : mj_J G Y Ex N S pc lv (.int y :: .int x :: st) μ := by
  intro p e R s m args below meth c Q C H locs cells slots ls hw hL hb hc hs hl
  exact lv_icmp_ge C.1 C.2.1 hdg ht (fun h => kt h p e R s m args below meth c Q C H locs cells slots ls hw hL hb hc hs hl) (fun h => kf h p e R s m args below meth c Q C H locs cells slots ls hw hL hb hc hs hl)
theorem mj_icmp_gt {x y : Int32} {off : Int} {tgt : Nat} (hdg : decode Y.2.1 pc = .ok (.if_icmp .gt off, 3)) (ht : (pc : Int) + off = (tgt : Int)) (kt : y < x → mj_J G Y Ex N S tgt lv st μ) (kf : ¬ y < x → mj_J G Y Ex N S (pc + 3) lv st μ) : mj_J G Y Ex N S pc lv (.int y :: .int x :: st) μ := by
  intro p e R s m args below meth c Q C H locs cells slots ls hw hL hb hc hs hl
  exact lv_icmp_gt C.1 C.2.1 hdg ht (fun h => kt h p e R s m args below meth c Q C H locs cells slots ls hw hL hb hc hs hl) (fun h => kf h p e R s m args below meth c Q C H locs cells slots ls hw hL hb hc hs hl)
theorem mj_icmp_le {x y : Int32} {off : Int} {tgt : Nat} (hdg : decode Y.2.1 pc = .ok (.if_icmp .le off, 3)) (ht : (pc : Int) + off = (tgt : Int)) (kt : x ≤ y → mj_J G Y Ex N S tgt lv st μ) (kf : ¬ x ≤ y → mj_J G Y Ex N S (pc + 3) lv st μ) : mj_J G Y Ex N S pc lv (.int y :: .int x :: st) μ := by
  intro p e R s m args below meth c Q C H locs cells slots ls hw hL hb hc hs hl
  exact lv_icmp_le C.1 C.2.1 hdg ht (fun h => kt h p e R s m args below meth c Q C H locs cells slots ls hw hL hb hc hs hl) (fun h => kf h p e R s m args below meth c Q C H locs cells slots ls hw hL hb hc hs hl)
theorem mj_acmp_eq {rx ry : Option Nat} {off : Int} {tgt : Nat} (hdg : decode Y.2.1 pc = .ok (.if_acmp .eq off, 3)) (ht : (pc : Int) + off = (tgt : Int)) (kt : rx = ry → mj_J G Y Ex N S tgt lv st μ) (kf : ¬ rx = ry → mj_J G Y Ex N S (pc + 3) lv st μ) : mj_J G Y Ex N S pc lv (va_rf ry :: va_rf rx :: st) μ := by
  intro p e R s m args below meth c Q C H locs cells slots ls hw hL hb hc hs hl
  exact lv_acmp_eq C.1 C.2.1 hdg ht (fun h => kt h p e R s m args below meth c Q C H locs cells slots ls hw hL hb hc hs hl) (fun h => kf h p e R s m args below meth c Q C H locs cells slots ls hw hL hb hc hs hl)
theorem mj_acmp_ne {rx ry : Option Nat} {off : Int} {tgt : Nat} (hdg : decode Y.2.1 pc = .ok (.if_acmp .ne off, 3)) (ht : (pc : Int) + off = (tgt : Int)) (kt : ¬ rx = ry → mj_J G Y Ex N S tgt lv st μ) (kf : rx = ry → mj_J G Y Ex N S (pc + 3) lv st μ) : mj_J G Y Ex N S pc lv (va_rf ry :: va_rf rx :: st) μ := by
  intro p e R s m args below meth c Q C H locs cells slots ls hw hL hb hc hs hl
  exact lv_acmp_ne C.1 C.2.1 hdg ht (fun h => kt h p e R s m args below meth c Q C H locs cells slots ls hw hL hb hc hs hl) (fun h => kf h p e R s m args below meth c Q C H locs cells slots ls hw hL hb hc hs hl)
theorem mj_ifnull {r : Option Nat} {off : Int} {tgt : Nat} (hdg : decode Y.2.1 pc = .ok (.ifnull off, 3)) (ht : (pc : Int) + off = (tgt : Int)) (kt : r = none → mj_J G Y Ex N S tgt lv st μ) (kf : ∀ b : Nat, r = some b → mj_J G Y Ex N S (pc + 3) lv st μ) : mj_J G Y Ex N S pc lv (va_rf r :: st) μ := by
  intro p e R s m args below meth c Q C H locs cells slots ls hw hL hb hc hs hl
  cases r with
  | none => exact lv_ifnullN C.1 C.2.1 hdg ht (kt rfl p e R s m args below meth c Q C H locs cells slots ls hw hL hb hc hs hl)
  | some a => exact lv_ifnull C.1 C.2.1 hdg (kf a rfl p e R s m args below meth c Q C H locs cells slots ls hw hL hb hc hs hl)
theorem mj_ifnonnull {r : Option Nat} {off : Int} {tgt : Nat} (hdg : decode Y.2.1 pc = .ok (.ifnonnull off, 3)) (ht : (pc : Int) + off = (tgt : Int)) (kt : ∀ b : Nat, r = some b → mj_J G Y Ex N S tgt lv st μ) (kf : r = none → mj_J G Y Ex N S (pc + 3) lv st μ) : mj_J G Y Ex N S pc lv (va_rf r :: st) μ := by
  intro p e R s m args below meth c Q C H locs cells slots ls hw hL hb hc hs hl
  cases r with
  | none => exact lv_ifnonnullN C.1 C.2.1 hdg (kf rfl p e R s m args below meth c Q C H locs cells slots ls hw hL hb hc hs hl)
  | some a => exact lv_ifnonnull C.1 C.2.1 hdg ht (kt a rfl p e R s m args below meth c Q C H locs cells slots ls hw hL hb hc hs hl)
theorem mj_tableIn {dflt lo hi : Int} {offs : Array Int} {len : Nat} {x : Int32} {off : Int} {tgt : Nat} (hdg : decode Y.2.1 pc = .ok (.tableswitch dflt lo hi offs, len)) (h1 : ¬ x.toInt < lo) (h2 : ¬ hi < x.toInt) (ho : offs[(x.toInt - lo).toNat]? = some off) (ht : (pc : Int) + off = (tgt : Int)) (kk : mj_J G Y Ex N S tgt lv st μ) : mj_J G Y Ex N S pc lv (.int x :: st) μ := by
  intro p e R s m args below meth c Q C H locs cells slots ls hw hL hb hc hs hl
  exact lv_tableIn C.1 C.2.1 hdg h1 h2 ho ht (kk p e R s m args below meth c Q C H locs cells slots ls hw hL hb hc hs hl)
theorem mj_tableOut {dflt lo hi : Int} {offs : Array Int} {len : Nat} {x : Int32} {tgt : Nat} (hdg : decode Y.2.1 pc = .ok (.tableswitch dflt lo hi offs, len)) (h : x.toInt < lo ∨ hi < x.toInt) (ht : (pc : Int) + dflt = (tgt : Int)) (kk : mj_J G Y Ex N S tgt lv st μ) : mj_J G Y Ex N S pc lv (.int x :: st) μ := by
  intro p e R s m args below meth c Q C H locs cells slots ls hw hL hb hc hs hl
  exact lv_tableOut C.1 C.2.1 hdg h ht (kk p e R s m args below meth c Q C H locs cells slots ls hw hL hb hc hs hl)
theorem mj_return (hdg : decode Y.2.1 pc = .ok (.return_, 1)) (hr : Y.2.2.2.2.2.1 = none) (he : Ex none μ) : mj_J G Y Ex N S pc lv [] μ := by
  intro p e R s m args below meth c Q C H locs cells slots ls hw hL hb hc hs hl
  exact C.2.2.2.2.2.2.2.2.2 H locs cells slots pc ls none μ hw hL (by omega) (by omega) he (Or.inl ⟨rfl, hr, hdg⟩)
theorem mj_ireturn {x : Int32} {ty : FieldType} (hdg : decode Y.2.1 pc = .ok (.ireturn, 1)) (hr : Y.2.2.2.2.2.1 = some ty) (hn : narrow ty (.int x) = .int x) (he : Ex (some (.int x)) μ) : mj_J G Y Ex N S pc lv [.int x] μ := by
  intro p e R s m args below meth c Q C H locs cells slots ls hw hL hb hc hs hl
  exact C.2.2.2.2.2.2.2.2.2 H locs cells slots pc ls (some (.int x)) μ hw hL (by omega) (by omega) he (Or.inr (Or.inl ⟨x, ty, rfl, hr, hn, hdg⟩))
theorem mj_lreturn {x : Int64} (hdg : decode Y.2.1 pc = .ok (.lreturn, 1)) (hr : Y.2.2.2.2.2.1 = some .long) (he : Ex (some (.long x)) μ) : mj_J G Y Ex N S pc lv [.long x] μ := by
  intro p e R s m args below meth c Q C H locs cells slots ls hw hL hb hc hs hl
  exact C.2.2.2.2.2.2.2.2.2 H locs cells slots pc ls (some (.long x)) μ hw hL (by omega) (by omega) he (Or.inr (Or.inr (Or.inl ⟨x, rfl, hr, hdg⟩)))
theorem mj_areturn {r : Option Nat} {ty : FieldType} (hdg : decode Y.2.1 pc = .ok (.areturn, 1)) (hr : Y.2.2.2.2.2.1 = some ty) (hn : (∃ n, ty = .object n) ∨ ∃ t, ty = .array t) (he : Ex (some (va_rf r)) μ) : mj_J G Y Ex N S pc lv [va_rf r] μ := by
  intro p e R s m args below meth c Q C H locs cells slots ls hw hL hb hc hs hl
  exact C.2.2.2.2.2.2.2.2.2 H locs cells slots pc ls (some (va_rf r)) μ hw hL (by omega) (by omega) he (Or.inr (Or.inr (Or.inr ⟨r, ty, rfl, hr, hn, hdg⟩)))
end MJ
section MJB
variable {G : mj_G} {Y : mj_Y} {Ex : Option Value → mj_MM → Prop} {N S pc : Nat} {lv : List (Nat × Value)} {st : List Value} {μ : mj_MM}
/-- a class of the table: its place, its fields' types, their names apart, its words among the tables' -/
def mj_Cl (ci : Nat) (C : String) (T : u_T) (N : Nat) : Prop := ci < 500 ∧ md_cl[ci]? = some (C, T, N) ∧ (∀ k, k < N → parseFieldDescriptor (T k).2.2.1 = some (md_ty ci k)) ∧ (∀ a, a < N → ∀ b, b < N → a ≠ b → (T a).2.1 ≠ (T b).2.1) ∧ ∀ w ∈ u_ws C T N, w ∈ md_Ts
theorem mj_W.obj {H : Heap} {a ci : Nat} {C : String} {T : u_T} {NF : Nat} (hw : mj_W G μ H) (hc : mj_Cl ci C T NF) (ht : mj_t μ a = ci + 1) : t_OB a (G.2.1.1 ci) NF (G.2.1.2 ci) H (fun k => mj_val (md_ty ci k) μ a k) := by
  obtain ⟨r, h1, h2⟩ := hw.2.2.2.1 a ci hc.1 ht
  have hr : r = (C, T, NF) := Option.some.inj (h1.symm.trans hc.2.1)
  subst hr
  exact h2
theorem mj_getf {a ci index : Nat} {rr : Option Nat} {C : String} {T : u_T} {NF : Nat} {v : Value} (hrr : rr = some a) (hc : mj_Cl ci C T NF) (k : Nat) (hk : k < NF) (hlink : Cond.fieldLink Y.1 index (T k).1 (T k).2.1 (T k).2.2.1 ∈ md_Ts) (hdg : decode Y.2.1 pc = .ok (.getfield index, 3)) (ht : mj_t μ a = ci + 1) (hv : mj_val (md_ty ci k) μ a k = v)
    (kk : mj_J G Y Ex N S (pc + 3) lv (v :: st) μ) : mj_J G Y Ex N S pc lv (va_rf rr :: st) μ := by
  subst hrr
  intro p e R s m args below meth c Q C H locs cells slots ls hw hL hb hc' hs hl
  obtain ⟨cell, q1, q2, q3, q4⟩ := hw.obj hc ht
  obtain ⟨hS, hfc, kC, hkC, hkind⟩ := C.2.2.2.2.2.1.1.1 ci _ hc.2.1
  obtain ⟨cf, kf, fi, f, hi, hsl⟩ := hS k hk
  refine W.getf C.1 C.2.1 C.2.2.2.1 (C.2.2.2.2.1 _ hlink) hi (u_facts hfc hkC (u_lays C.2.2.2.2.1 hc.2.2.2.2 hk) hi).1 q1 (by rw [q3]; exact fun h => by cases h) (v := v) ?_ rfl rfl hdg (kk p e R s m args below meth c Q C H locs cells slots ls hw hL hb hc' hs hl)
  rw [hsl, q4 k hk]
  exact congrArg some hv
theorem mj_apart {s : State} {args : Array Value} {ci : Nat} {C : String} {T : u_T} {NF : Nat} (hts : ∀ w ∈ md_Ts, w.before args s = true) (hK : mj_K G s) (hc : mj_Cl ci C T NF) : ∀ x y, x < NF → y < NF → x ≠ y → (G.2.1.2 ci) x ≠ (G.2.1.2 ci) y :=
  va_apart (own := C) hts hc.2.2.2.2 (md_ty ci) hc.2.2.1 hc.2.2.2.1 hK.1 hc.2.1
/-- one object's cell has changed in one place -/
theorem mj_W.put {H H' : Heap} {μ' : mj_MM} {a ci k : Nat} {C : String} {T : u_T} {NF : Nat} {cell : Cell} {v : Value} (hw : mj_W G μ H) (hc : mj_Cl ci C T NF) (ht : mj_t μ a = ci + 1)
    (e1 : t_OB a (G.2.1.1 ci) NF (G.2.1.2 ci) H' (updV (fun j => mj_val (md_ty ci j) μ a j) k v)) (e2 : H'.size = H.size) (e3 : ∀ q, q ≠ a → H'[q]? = H[q]?) (h1 : ∀ b, mj_t μ' b = mj_t μ b)
    (h2 : ∀ j, j < NF → mj_val (md_ty ci j) μ' a j = updV (fun j => mj_val (md_ty ci j) μ a j) k v j) (h3 : ∀ (b : Nat) (ty : FieldType) (j : Nat), b ≠ a → mj_val ty μ' b j = mj_val ty μ b j) (h4 : ∀ (b : Nat) (ty : FieldType), b ≠ a → mj_arr ty μ' b = mj_arr ty μ b) : mj_W G μ' H' := by
  obtain ⟨w1, w2, w3, w4, w5⟩ := hw
  have ha : G.2.2.2.size ≤ a := (w3 a (by rw [ht]; omega)).1
  refine ⟨by rw [e2]; exact w1, fun q hq => by rw [e3 q (by omega)]; exact w2 q hq, fun b hb => by rw [e2]; exact w3 b (by rw [← h1]; exact hb), fun b cj hj hb => ?_, fun b t hb => ?_⟩
  · rw [h1] at hb
    by_cases hba : b = a
    · subst hba
      have hcj : cj = ci := by rw [ht] at hb; omega
      subst hcj
      exact ⟨_, hc.2.1, e1.to fun j hj => (h2 j hj).symm⟩
    · obtain ⟨r, g1, g2⟩ := w4 b cj hj hb
      exact ⟨r, g1, (g2.kept (e3 b hba)).to fun j _ => (h3 b _ j hba).symm⟩
  · rw [h1] at hb
    by_cases hba : b = a
    · subst hba
      have := hc.1
      rw [ht] at hb
      omega
    · obtain ⟨q, g1, g2⟩ := w5 b t hb
      exact ⟨q, g1, by rw [e3 b hba, h4 b _ hba]; exact g2⟩
/-- the machine's own store, any value -/
theorem mj_putv {a ci index : Nat} {C : String} {T : u_T} {NF : Nat} {v : Value} {μ' : mj_MM} (hc : mj_Cl ci C T NF) (k : Nat) (hk : k < NF) (hlink : Cond.fieldLink Y.1 index (T k).1 (T k).2.1 (T k).2.2.1 ∈ md_Ts) (hdg : decode Y.2.1 pc = .ok (.putfield index, 3))
    (hfin : (T k).2.2.2 = false ∨ ((T k).2.2.2 = true ∧ (T k).1 = Y.1 ∧ Y.2.2.2.2.2.2 = true)) (ht : mj_t μ a = ci + 1) (hn : narrow (md_ty ci k) v = v) (hfit : fits (md_ty ci k) v = true) (h1 : ∀ b, mj_t μ' b = mj_t μ b)
    (h2 : ∀ j, j < NF → mj_val (md_ty ci j) μ' a j = updV (fun j => mj_val (md_ty ci j) μ a j) k v j) (h3 : ∀ (b : Nat) (ty : FieldType) (j : Nat), b ≠ a → mj_val ty μ' b j = mj_val ty μ b j) (h4 : ∀ (b : Nat) (ty : FieldType), b ≠ a → mj_arr ty μ' b = mj_arr ty μ b) (h5 : mj_nc μ' = mj_nc μ) (h6 : mj_ns μ' = mj_ns μ)
    (kk : mj_J G Y Ex N S (pc + 3) lv st μ') : mj_J G Y Ex N S pc lv (v :: va_rf (some a) :: st) μ := by
  intro p e R s m args below meth c Q C H locs cells slots ls hw hL hb hc' hs hl
  have hap := mj_apart C.2.2.2.2.1 C.2.2.2.2.2.1 hc
  obtain ⟨cell, q1, q2, q3, q4⟩ := hw.obj hc ht
  obtain ⟨hS, hfc, kC, hkC, hkind⟩ := C.2.2.2.2.2.1.1.1 ci _ hc.2.1
  obtain ⟨cf, kf, fi, f, hi, hsl⟩ := hS k hk
  have hlay := C.2.2.2.2.1 _ (hc.2.2.2.2 _ (u_in_lay hk))
  have hst := (u_facts hfc hkC (u_lays C.2.2.2.2.1 hc.2.2.2.2 hk) hi).1
  have ha : G.2.2.2.size ≤ a := (hw.2.2.1 a (by rw [ht]; omega)).1
  have fin : ∀ H' : Heap, H'[a]? = some (cell.setSlot f.slot v) → H'.size = H.size → (∀ q, q ≠ a → H'[q]? = H[q]?) → W p G.1 e R s m args below meth c H' (locs ++ [⟨a, f.slot⟩]) cells slots Q (F0 m (pc + 3) ls st) := by
    intro H' e1 e2 e3
    rw [hsl] at e1
    exact kk p e R s m args below meth c Q C H' _ cells slots ls (hw.put (cell := cell) hc ht ⟨_, e1, q2, q3, t_set q4 hap hk v⟩ e2 e3 h1 h2 h3 h4) (t_lc hL ha) (by rw [h5, h6]; exact hb) (by rw [h5]; exact hc') (by rw [h6]; exact hs) hl
  unfold u_lay at hlay
  rcases hfin with hfin | ⟨hfin, hdecl, hin2⟩
  · rw [if_neg (by rw [hfin]; decide)] at hlay
    have h6 := u_store hfc hkC hkind hlay hi (hc.2.2.1 k hk) hn hfit
    exact W.putK C.1 C.2.1 (f := f) ⟨C.2.2.2.1, C.2.2.2.2.1 _ hlink, ⟨_, _, _, hi⟩, hst⟩ (by rw [q2]; exact h6) q1 q3 (by rw [hsl]; exact k2_hasslot (q4 k hk)) rfl rfl hdg fin
  · rw [if_pos hfin] at hlay
    have hcf : m.cls = cf := by
      obtain ⟨_, _, c', _, _, _, -, -, hf', -, -, -, hown2, -⟩ := Cond.laysFinal_spec hlay
      have e1 : c' = cf := by have := hi.symm.trans hf'; simp at this; exact this.1.symm
      rw [hdecl] at hown2
      rw [← e1]; exact Option.some.inj (C.2.2.2.1.symm.trans hown2)
    have h6 := u_fits hfc hkC hkind (Or.inr hlay) hi (hc.2.2.1 k hk) hn hfit
    exact W.putFinK C.1 C.2.1 C.2.2.2.1 (C.2.2.2.2.1 _ hlink) hi hst hcf (C.2.2.2.2.2.2.2.2.1 hin2) (by rw [q2]; exact h6) q1 q3 (by rw [hsl]; exact k2_hasslot (q4 k hk)) rfl rfl hdg fin
theorem mj_val_pI (ty : FieldType) (a k : Nat) (x : Int32) {b j : Nat} (h : b ≠ a) : mj_val ty (mj_pI μ a k x) b j = mj_val ty μ b j := by
  cases ty <;> simp [mj_val, mj_i, mj_r, mj_l, mj_pI, mj_u_apart _ x h]
theorem mj_arr_pI (ty : FieldType) (a k : Nat) (x : Int32) {b : Nat} (h : b ≠ a) : mj_arr ty (mj_pI μ a k x) b = mj_arr ty μ b := by
  have e : mj_i (mj_pI μ a k x) b = mj_i μ b := funext fun j => mj_u_apart _ x h
  cases ty <;> simp only [mj_arr] <;> first | rfl | (rw [e]; rfl)
theorem mj_val_pR (ty : FieldType) (a k : Nat) (x : Option Nat) {b j : Nat} (h : b ≠ a) : mj_val ty (mj_pR μ a k x) b j = mj_val ty μ b j := by
  cases ty <;> simp [mj_val, mj_i, mj_r, mj_l, mj_pR, mj_u_apart _ x h]
theorem mj_arr_pR (ty : FieldType) (a k : Nat) (x : Option Nat) {b : Nat} (h : b ≠ a) : mj_arr ty (mj_pR μ a k x) b = mj_arr ty μ b := by
  have e : mj_r (mj_pR μ a k x) b = mj_r μ b := funext fun j => mj_u_apart _ x h
  cases ty <;> simp only [mj_arr] <;> first | rfl | (rw [e]; rfl)
theorem mj_val_pL (ty : FieldType) (a k : Nat) (x : Int64) {b j : Nat} (h : b ≠ a) : mj_val ty (mj_pL μ a k x) b j = mj_val ty μ b j := by
  cases ty <;> simp [mj_val, mj_i, mj_r, mj_l, mj_pL, mj_u_apart _ x h]
theorem mj_arr_pL (ty : FieldType) (a k : Nat) (x : Int64) {b : Nat} (h : b ≠ a) : mj_arr ty (mj_pL μ a k x) b = mj_arr ty μ b := by
  have e : mj_l (mj_pL μ a k x) b = mj_l μ b := funext fun j => mj_u_apart _ x h
  cases ty <;> simp only [mj_arr] <;> first | rfl | (rw [e]; rfl)
def mj_isI : FieldType → Bool
  | .object _ => false
  | .array _ => false
  | .long => false
  | _ => true
def mj_isR : FieldType → Bool
  | .object _ => true
  | .array _ => true
  | _ => false
theorem mj_putI {a ci index : Nat} {rr : Option Nat} {C : String} {T : u_T} {NF : Nat} {x : Int32} (hrr : rr = some a) (hc : mj_Cl ci C T NF) (k : Nat) (hk : k < NF) (hty : mj_isI (md_ty ci k) = true) (hlink : Cond.fieldLink Y.1 index (T k).1 (T k).2.1 (T k).2.2.1 ∈ md_Ts) (hdg : decode Y.2.1 pc = .ok (.putfield index, 3))
    (hfin : (T k).2.2.2 = false ∨ ((T k).2.2.2 = true ∧ (T k).1 = Y.1 ∧ Y.2.2.2.2.2.2 = true)) (ht : mj_t μ a = ci + 1) (hn : narrow (md_ty ci k) (.int x) = .int x) (hfit : fits (md_ty ci k) (.int x) = true)
    (kk : mj_J G Y Ex N S (pc + 3) lv st (mj_pI μ a k x)) : mj_J G Y Ex N S pc lv (.int x :: va_rf rr :: st) μ := by
  subst hrr
  refine mj_putv (μ' := mj_pI μ a k x) hc k hk hlink hdg hfin ht hn hfit (fun b => rfl) (fun j hj => ?_) (fun b ty j hb => mj_val_pI ty a k x hb) (fun b ty hb => mj_arr_pI ty a k x hb) rfl rfl kk
  unfold updV
  by_cases hjk : j = k
  · subst hjk
    rw [if_pos rfl]
    generalize md_ty ci j = ty at hty ⊢
    cases ty <;> first | (exact absurd hty Bool.false_ne_true) | (simp [mj_val, mj_i, mj_pI, mj_u_self])
  · rw [if_neg hjk]
    show mj_val (md_ty ci j) (mj_pI μ a k x) a j = mj_val (md_ty ci j) μ a j
    generalize md_ty ci j = ty
    cases ty <;> simp [mj_val, mj_i, mj_r, mj_l, mj_pI, mj_u, hjk]
theorem mj_putR {a ci index : Nat} {rr : Option Nat} {C : String} {T : u_T} {NF : Nat} {x : Option Nat} (hrr : rr = some a) (hc : mj_Cl ci C T NF) (k : Nat) (hk : k < NF) (hty : mj_isR (md_ty ci k) = true) (hlink : Cond.fieldLink Y.1 index (T k).1 (T k).2.1 (T k).2.2.1 ∈ md_Ts) (hdg : decode Y.2.1 pc = .ok (.putfield index, 3))
    (hfin : (T k).2.2.2 = false ∨ ((T k).2.2.2 = true ∧ (T k).1 = Y.1 ∧ Y.2.2.2.2.2.2 = true)) (ht : mj_t μ a = ci + 1)
    (kk : mj_J G Y Ex N S (pc + 3) lv st (mj_pR μ a k x)) : mj_J G Y Ex N S pc lv (va_rf x :: va_rf rr :: st) μ := by
  subst hrr
  have hn : narrow (md_ty ci k) (va_rf x) = va_rf x := by
    generalize md_ty ci k = ty
    cases ty <;> cases x <;> rfl
  have hfit : fits (md_ty ci k) (va_rf x) = true := by
    generalize md_ty ci k = ty at hty ⊢
    cases ty <;> first | (exact absurd hty Bool.false_ne_true) | (cases x <;> rfl)
  refine mj_putv (μ' := mj_pR μ a k x) hc k hk hlink hdg hfin ht hn hfit (fun b => rfl) (fun j hj => ?_) (fun b ty j hb => mj_val_pR ty a k x hb) (fun b ty hb => mj_arr_pR ty a k x hb) rfl rfl kk
  unfold updV
  by_cases hjk : j = k
  · subst hjk
    rw [if_pos rfl]
    generalize md_ty ci j = ty at hty ⊢
    cases ty <;> first | (exact absurd hty Bool.false_ne_true) | (simp [mj_val, mj_r, mj_pR, mj_u_self])
  · rw [if_neg hjk]
    show mj_val (md_ty ci j) (mj_pR μ a k x) a j = mj_val (md_ty ci j) μ a j
    generalize md_ty ci j = ty
    cases ty <;> simp [mj_val, mj_i, mj_r, mj_l, mj_pR, mj_u, hjk]
theorem mj_putL {a ci index : Nat} {rr : Option Nat} {C : String} {T : u_T} {NF : Nat} {x : Int64} (hrr : rr = some a) (hc : mj_Cl ci C T NF) (k : Nat) (hk : k < NF) (hty : md_ty ci k = .long) (hlink : Cond.fieldLink Y.1 index (T k).1 (T k).2.1 (T k).2.2.1 ∈ md_Ts) (hdg : decode Y.2.1 pc = .ok (.putfield index, 3))
    (hfin : (T k).2.2.2 = false ∨ ((T k).2.2.2 = true ∧ (T k).1 = Y.1 ∧ Y.2.2.2.2.2.2 = true)) (ht : mj_t μ a = ci + 1)
    (kk : mj_J G Y Ex N S (pc + 3) lv st (mj_pL μ a k x)) : mj_J G Y Ex N S pc lv (.long x :: va_rf rr :: st) μ := by
  subst hrr
  refine mj_putv (μ' := mj_pL μ a k x) hc k hk hlink hdg hfin ht (by rw [hty]; rfl) (by rw [hty]; rfl) (fun b => rfl) (fun j hj => ?_) (fun b ty j hb => mj_val_pL ty a k x hb) (fun b ty hb => mj_arr_pL ty a k x hb) rfl rfl kk
  unfold updV
  by_cases hjk : j = k
  · subst hjk
    rw [if_pos rfl, hty]
    simp [mj_val, mj_l, mj_pL, mj_u_self]
  · rw [if_neg hjk]
    show mj_val (md_ty ci j) (mj_pL μ a k x) a j = mj_val (md_ty ci j) μ a j
    generalize md_ty ci j = ty
    cases ty <;> simp [mj_val, mj_i, mj_r, mj_l, mj_pL, mj_u, hjk]
/-- something new behind the heap's end -/
theorem mj_W.new {H H1 : Heap} {t n k0 : Nat} (hw : mj_W G μ H) (o1 : ∀ q, q < H.size → H1[q]? = H[q]?) (z1 : H1.size = H.size + 1)
    (hO : ∀ ci, ci < 500 → t = ci + 1 → ∃ r : vw_C, md_cl[ci]? = some r ∧ t_OB H.size (G.2.1.1 ci) r.2.2 (G.2.1.2 ci) H1 (fun k => mj_val (md_ty ci k) (mj_new μ H.size t n k0) H.size k))
    (hA : ∀ k, t = 1000 + k → ∃ ty : FieldType, md_at[k]? = some ty ∧ H1[H.size]? = some (vp_cell (G.2.2.1.1 k) (mj_arr ty (mj_new μ H.size t n k0) H.size))) : mj_W G (mj_new μ H.size t n k0) H1 := by
  obtain ⟨w1, w2, w3, w4, w5⟩ := hw
  have hv : ∀ (b : Nat) (ty : FieldType) (j : Nat), b ≠ H.size → mj_val ty (mj_new μ H.size t n k0) b j = mj_val ty μ b j := by
    intro b ty j hb
    cases ty <;> simp [mj_val, mj_i, mj_r, mj_l, mj_new, mj_w, hb]
  have ha : ∀ (b : Nat) (ty : FieldType), b ≠ H.size → mj_arr ty (mj_new μ H.size t n k0) b = mj_arr ty μ b := by
    intro b ty hb
    have e1 : mj_i (mj_new μ H.size t n k0) b = mj_i μ b := funext fun j => by simp [mj_i, mj_new, mj_w, hb]
    have e2 : mj_r (mj_new μ H.size t n k0) b = mj_r μ b := funext fun j => by simp [mj_r, mj_new, mj_w, hb]
    have e3 : mj_l (mj_new μ H.size t n k0) b = mj_l μ b := funext fun j => by simp [mj_l, mj_new, mj_w, hb]
    have e4 : mj_n (mj_new μ H.size t n k0) b = mj_n μ b := by simp [mj_n, mj_new, mj_w, hb]
    cases ty <;> simp [mj_arr, e1, e2, e3, e4]
  have hT : ∀ b, b ≠ H.size → mj_t (mj_new μ H.size t n k0) b = mj_t μ b := fun b hb => by simp [mj_t, mj_new, mj_w, hb]
  have hTs : mj_t (mj_new μ H.size t n k0) H.size = t := by simp [mj_t, mj_new, mj_w]
  refine ⟨by omega, fun q hq => by rw [o1 q (by omega)]; exact w2 q hq, fun b hb => ?_, fun b cj hj hb => ?_, fun b k hb => ?_⟩
  · by_cases h : b = H.size
    · subst h
      omega
    · rw [hT b h] at hb
      have := w3 b hb
      omega
  · by_cases h : b = H.size
    · subst h
      rw [hTs] at hb
      exact hO cj hj hb
    · rw [hT b h] at hb
      have hb2 := (w3 b (by rw [hb]; omega)).2
      obtain ⟨r, g1, g2⟩ := w4 b cj hj hb
      exact ⟨r, g1, (g2.kept (o1 b hb2)).to fun j _ => (hv b _ j h).symm⟩
  · by_cases h : b = H.size
    · subst h
      rw [hTs] at hb
      exact hA k hb
    · rw [hT b h] at hb
      have hb2 := (w3 b (by rw [hb]; omega)).2
      obtain ⟨q, g1, g2⟩ := w5 b k hb
      exact ⟨q, g1, by rw [o1 b hb2, ha b _ h]; exact g2⟩
theorem mj_W.free {H : Heap} (hw : mj_W G μ H) : mj_t μ H.size = 0 := by
  by_cases h : mj_t μ H.size = 0
  · exact h
  · have := (hw.2.2.1 _ h).2
    omega
theorem mj_val_new (ty : FieldType) (a t n k0 j : Nat) : mj_val ty (mj_new μ a t n k0) a j = mj_dv ty := by
  cases ty <;> simp [mj_val, mj_i, mj_r, mj_l, mj_new, mj_w, va_rf, mj_dv]
theorem mj_newO {ci index : Nat} {C : String} {T : u_T} {NF : Nat} (hc : mj_Cl ci C T NF) (hdef : ∀ k, k < NF → defaultValue (md_ty ci k) = mj_dv (md_ty ci k)) (hcl : Cond.classLink Y.1 index C ∈ md_Ts) (hinst : Cond.instantiable C NF ∈ md_Ts) (hini : Cond.initialized C ∈ md_Ts) (hdg : decode Y.2.1 pc = .ok (.new index, 3)) (h1 : mj_nc μ + 1 ≤ N) (h2 : mj_ns μ + NF ≤ S)
    (kk : ∀ a : Nat, mj_t μ a = 0 → mj_J G Y Ex N S (pc + 3) lv (va_rf (some a) :: st) (mj_new μ a (ci + 1) 0 NF)) : mj_J G Y Ex N S pc lv st μ := by
  intro p e R s m args below meth c Q C H locs cells slots ls hw hL hb hc' hs hl
  have hKn := C.2.2.2.2.2.1.1.1 ci _ hc.2.1
  obtain ⟨hb1, hb2⟩ := hb
  refine W.newcK C.1 C.2.1 C.2.2.2.1 (C.2.2.2.2.1 _ hcl) (C.2.2.2.2.1 _ hinst) (C.2.2.2.2.1 _ hini) rfl hdg (by omega) (by omega) hKn.2.1 rfl fun H1 kC hkC e1 z1 o1 => ?_
  refine kk H.size hw.free p e R s m args below meth c Q C H1 locs (cells + 1) (slots + NF) ls (hw.new o1 z1 (fun cj hj e => ?_) (fun k e => ?_)) hL ⟨h1, h2⟩ (by show cells + 1 + (N - (mj_nc μ + 1)) ≤ _; omega) (by show slots + NF + (S - (mj_ns μ + NF)) ≤ _; omega) hl
  · have hcj : cj = ci := by omega
    subst hcj
    exact ⟨_, hc.2.1, (u_born (md_ty cj) C.2.2.2.2.1 hc.2.2.2.2 hKn hkC e1 hc.2.2.1).to fun k hk => by rw [mj_val_new, hdef k hk]⟩
  · have := hc.1
    omega
theorem mj_tk {a b k t n k0 : Nat} (h : mj_t μ b = k) (hk : k ≠ 0) (hf : mj_t μ a = 0) : mj_t (mj_new μ a t n k0) b = k := by
  have hb : b ≠ a := fun e => hk (by rw [← h, e]; exact hf)
  simp only [mj_t, mj_new, mj_w, if_neg hb]
  exact h
theorem mj_tn {a t n k0 : Nat} : mj_t (mj_new μ a t n k0) a = t := by simp [mj_t, mj_new, mj_w]
end MJB
section MJC
variable {G : mj_G} {Y : mj_Y} {Ex : Option Value → mj_MM → Prop} {N S pc : Nat} {lv : List (Nat × Value)} {st : List Value} {μ : mj_MM}
theorem mj_good : ∀ w ∈ md_Ts, goodWord w = true := fun _ h => (List.mem_filter.mp h).2
/-- what every call wants of the tables, and of the room -/
def mj_CB (Y : mj_Y) (y : MethodName) (Yc : mj_Y) (index n : Nat) : Prop :=
  Cond.methodLink Y.1 index y ∈ md_Ts ∧ Cond.initialized y.cls ∈ md_Ts ∧ Cond.code y Yc.2.1 Yc.2.2.1 Yc.2.2.2.2.2.1 ∈ md_Ts ∧
  (y.cls ≠ "java/lang/invoke/MethodHandle" ∧ y.cls ≠ "java/lang/invoke/VarHandle" ∧ (parseMethodDescriptor y.desc).map (fun d => d.parameters.length) = some n) ∧ Yc.2.2.2.1 + 1 ≤ Y.2.2.2.1 ∧ 8 + (Yc.2.2.1 + 11) + Yc.2.2.2.2.1 ≤ Y.2.2.2.2.1
theorem mj_callB {y : MethodName} {Yc : mj_Y} {index n mc ms : Nat} {R : Room} {s : State} {args : Array Value} (hts : ∀ w ∈ md_Ts, w.before args s = true) (h : mj_CB Y y Yc index n) (hf : Y.2.2.2.1 ≤ R.frames) (hl : Y.2.2.2.2.1 ≤ R.locals) :
    CallB R s args Y.1 index y Yc.2.1 Yc.2.2.1 Yc.2.2.2.2.2.1 (Cond.code y Yc.2.1 Yc.2.2.1 Yc.2.2.2.2.2.1 :: md_Ts) ({ frames := Yc.2.2.2.1, cells := mc, slots := ms, locals := Yc.2.2.2.2.1 }) mc ms n := by
  obtain ⟨h1, h2, h3, h4, h5, h6⟩ := h
  refine callB_of (Ts := md_Ts) n hts (fun w hw => ?_) rfl rfl rfl (hts _ h2) (hts _ h1) h4 ⟨Nat.le_trans h5 hf, Nat.le_trans h6 hl⟩
  rcases List.mem_cons.mp hw with rfl | hw
  · exact ⟨h3, good_of_word (mj_good _ h3)⟩
  · exact ⟨hw, good_of_word (mj_good _ hw)⟩
theorem mj_blind {as : List Value} : FrameBlind (va_Pc as (fun U => mj_W G μ U.heap ∧ mj_K G U)) := fun a U g mk q => ⟨q.1, q.2.1, mj_K.same (u := U) (U := U.calling g mk a) rfl q.2.2⟩
/-- behind a call -/
theorem mj_after {p : Program} {e : Env} {R : Room} {s : State} {m : MethodId} {args : Array Value} {below : List Frame} {meth : Method} {c : Code} {Q : State → Prop} {H : Heap} {locs : List Loc} {cells slots N' S' : Nat} {ls : Array Slot} {st0 rest : List Value} {Ex' : Option Value → mj_MM → Prop} {a : Array Value}
    (C : mj_C G Y Ex p e R s m args below meth c Q) (hb0 : mj_nc μ ≤ N' ∧ mj_ns μ ≤ S') (hr : va_Run p G.1 e R s m args below meth c H locs cells slots (N' - mj_nc μ) (S' - mj_ns μ) (F0 m pc ls st0) rest ((fun (_ : Array Value) (_ : State) (o : Outcome) (t : State) => ∃ (v : Option Value) (μ' : mj_MM), o = .returned v ∧ (Ex' v μ' ∧ mj_nc μ' = N' ∧ mj_ns μ' = S') ∧ mj_W G μ' t.heap) a) (fun q => G.2.2.2.size ≤ q))
    (hL : ∀ q ∈ locs, G.2.2.2.size ≤ q.base) (hb : mj_nc μ ≤ N ∧ mj_ns μ ≤ S) (hc : cells + (N - mj_nc μ) ≤ R.cells) (hs : slots + (S - mj_ns μ) ≤ R.slots) (hl : lv_has ls Y.2.2.1 lv) (h1 : N' ≤ N ∧ S' ≤ S)
    (kk : ∀ (v : Option Value) (μ' : mj_MM), Ex' v μ' → mj_nc μ' = N' → mj_ns μ' = S' → mj_J G Y Ex N S (pc + 3) lv (v.toList ++ rest) μ') : W p G.1 e R s m args below meth c H locs cells slots Q (F0 m pc ls st0) := by
  intro T hT X
  obtain ⟨v, st₀, t, T', L, -, X', hLL, hh, -, ⟨v', μ', ho, ⟨hE, e1, e2⟩, hw'⟩, hgo⟩ := hr T hT X
  cases ho
  obtain ⟨t2, a2, b2⟩ := kk v μ' hE e1 e2 p e R s m args below meth c Q C T'.heap (locs ++ L) (cells + (N' - mj_nc μ)) (slots + (S' - mj_ns μ)) ls (by rw [hh]; exact hw') (t_lL hL hLL) (by rw [e1, e2]; exact h1) (by rw [e1]; omega) (by rw [e2]; omega) hl T' rfl X'
  exact ⟨t2, hgo t2 a2, b2⟩
theorem mj_callV {y : MethodName} {Yc : mj_Y} {As : List Value} {b ci index N' S' n : Nat} {Cn : String} {T : u_T} {NF : Nat} {rr : Option Nat} {Ex' : Option Value → mj_MM → Prop} (hrr : rr = some b) (hM : mj_M G y Yc (va_rf (some b) :: As) N' S' μ Ex') (hcl : mj_Cl ci Cn T NF) (ht : mj_t μ b = ci + 1) (hW : mj_CB Y y Yc index n) (hinst : Cond.instanceMethod y ∈ md_Ts) (hsel : Cond.selects Cn y y ∈ md_Ts) (hn : As.length = n) (hdg : decode Y.2.1 pc = .ok (.invokevirtual index, 3)) (hst : (st.map fun v => v.category).sum ≤ 8) (h1 : N' ≤ N ∧ S' ≤ S)
    (kk : ∀ (v : Option Value) (μ' : mj_MM), Ex' v μ' → mj_nc μ' = N' → mj_ns μ' = S' → mj_J G Y Ex N S (pc + 3) lv (v.toList ++ st) μ') : mj_J G Y Ex N S pc lv (As.reverse ++ va_rf rr :: st) μ := by
  subst hrr
  intro p e R s m args below meth c Q C H locs cells slots ls hw hL hb hc hs hl
  refine mj_after (a := (va_rf (some b) :: As).toArray) C hM.1 (va_runV (As := As) (rest := st) (Ts := md_Ts) (nL := Y.2.2.1) ⟨C.1, C.2.1, C.2.2.1, C.2.2.2.1, C.2.2.2.2.1⟩ hM.2 ⟨mj_callB C.2.2.2.2.1 hW C.2.2.2.2.2.2.1 C.2.2.2.2.2.2.2.1, C.2.2.2.2.1 _ hinst, C.2.2.2.2.1 _ hsel⟩ ⟨mj_blind, ?_, fun U hU hWm => ⟨rfl, by rw [hU]; exact hw, mj_K.warm hWm C.2.2.2.2.2.1⟩⟩ rfl hn hl.1 rfl (lv_room hst) hdg ⟨by omega, by omega⟩) hL hb hc hs hl h1 kk
  obtain ⟨cell, q1, q2, q3, -⟩ := hw.obj hcl ht
  exact ⟨cell, q1, by rw [q3]; rfl, by rw [q2]; exact (C.2.2.2.2.2.1.1.1 ci _ hcl.2.1).2.1⟩
theorem mj_callI {y : MethodName} {Yc : mj_Y} {As : List Value} {b index N' S' n : Nat} {rr : Option Nat} {Ex' : Option Value → mj_MM → Prop} (hrr : rr = some b) (hM : mj_M G y Yc (va_rf (some b) :: As) N' S' μ Ex') (hW : mj_CB Y y Yc index n) (hret : Yc.2.2.2.2.2.1 = none) (hinit : y.name = "<init>") (hinst : Cond.instanceMethod y ∈ md_Ts) (hn : As.length = n) (hdg : decode Y.2.1 pc = .ok (.invokespecial index, 3)) (hst : (st.map fun v => v.category).sum ≤ 8) (h1 : N' ≤ N ∧ S' ≤ S)
    (kk : ∀ (v : Option Value) (μ' : mj_MM), Ex' v μ' → mj_nc μ' = N' → mj_ns μ' = S' → mj_J G Y Ex N S (pc + 3) lv (v.toList ++ st) μ') : mj_J G Y Ex N S pc lv (As.reverse ++ va_rf rr :: st) μ := by
  subst hrr
  intro p e R s m args below meth c Q C H locs cells slots ls hw hL hb hc hs hl
  have hB := mj_callB (mc := N' - mj_nc μ) (ms := S' - mj_ns μ) C.2.2.2.2.1 hW C.2.2.2.2.2.2.1 C.2.2.2.2.2.2.2.1
  rw [hret] at hB
  obtain ⟨hb0, hM⟩ := hM
  rw [hret] at hM
  exact mj_after (a := (va_rf (some b) :: As).toArray) C hb0 (va_runI (As := As) (rest := st) (Ts := md_Ts) (nL := Y.2.2.1) ⟨C.1, C.2.1, C.2.2.1, C.2.2.2.1, C.2.2.2.2.1⟩ hM ⟨hB, hinit, C.2.2.2.2.1 _ hinst⟩ ⟨mj_blind, fun U hU hWm => ⟨rfl, by rw [hU]; exact hw, mj_K.warm hWm C.2.2.2.2.2.1⟩⟩ rfl hn hl.1 rfl (lv_room hst) hdg ⟨by omega, by omega⟩) hL hb hc hs hl h1 kk
theorem mj_callS {y : MethodName} {Yc : mj_Y} {As : List Value} {index N' S' n : Nat} {Ex' : Option Value → mj_MM → Prop} (hM : mj_M G y Yc As N' S' μ Ex') (hW : mj_CB Y y Yc index n) (hstat : Cond.static y ∈ md_Ts) (hn : As.length = n) (hdg : decode Y.2.1 pc = .ok (.invokestatic index, 3)) (hst : (st.map fun v => v.category).sum ≤ 8) (h1 : N' ≤ N ∧ S' ≤ S)
    (kk : ∀ (v : Option Value) (μ' : mj_MM), Ex' v μ' → mj_nc μ' = N' → mj_ns μ' = S' → mj_J G Y Ex N S (pc + 3) lv (v.toList ++ st) μ') : mj_J G Y Ex N S pc lv (As.reverse ++ st) μ := by
  intro p e R s m args below meth c Q C H locs cells slots ls hw hL hb hc hs hl
  exact mj_after (a := As.toArray) C hM.1 (va_runS (As := As) (rest := st) (Ts := md_Ts) (nL := Y.2.2.1) ⟨C.1, C.2.1, C.2.2.1, C.2.2.2.1, C.2.2.2.2.1⟩ hM.2 ⟨mj_callB C.2.2.2.2.1 hW C.2.2.2.2.2.2.1 C.2.2.2.2.2.2.2.1, C.2.2.2.2.1 _ hstat⟩ ⟨mj_blind, fun U hU hWm => ⟨rfl, by rw [hU]; exact hw, mj_K.warm hWm C.2.2.2.2.2.1⟩⟩ rfl hn hl.1 rfl (lv_room hst) hdg ⟨by omega, by omega⟩) hL hb hc hs hl h1 kk
theorem mj_kV {P : mj_MM → Prop} {N' S' q : Nat} {l0 : List (Nat × Value)} {s0 : List Value} (kk : ∀ μ' : mj_MM, P μ' → mj_nc μ' = N' → mj_ns μ' = S' → mj_J G Y Ex N S q l0 s0 μ') : ∀ (v : Option Value) (μ' : mj_MM), mj_XV P v μ' → mj_nc μ' = N' → mj_ns μ' = S' → mj_J G Y Ex N S q l0 (v.toList ++ s0) μ' := by
  rintro v μ' ⟨rfl, h⟩ e1 e2
  exact kk μ' h e1 e2
theorem mj_kI {P : Int32 → mj_MM → Prop} {N' S' q : Nat} {l0 : List (Nat × Value)} {s0 : List Value} (kk : ∀ (x : Int32) (μ' : mj_MM), P x μ' → mj_nc μ' = N' → mj_ns μ' = S' → mj_J G Y Ex N S q l0 (.int x :: s0) μ') : ∀ (v : Option Value) (μ' : mj_MM), mj_XI P v μ' → mj_nc μ' = N' → mj_ns μ' = S' → mj_J G Y Ex N S q l0 (v.toList ++ s0) μ' := by
  rintro v μ' ⟨x, rfl, h⟩ e1 e2
  exact kk x μ' h e1 e2
theorem mj_kL {P : Int64 → mj_MM → Prop} {N' S' q : Nat} {l0 : List (Nat × Value)} {s0 : List Value} (kk : ∀ (x : Int64) (μ' : mj_MM), P x μ' → mj_nc μ' = N' → mj_ns μ' = S' → mj_J G Y Ex N S q l0 (.long x :: s0) μ') : ∀ (v : Option Value) (μ' : mj_MM), mj_XL P v μ' → mj_nc μ' = N' → mj_ns μ' = S' → mj_J G Y Ex N S q l0 (v.toList ++ s0) μ' := by
  rintro v μ' ⟨x, rfl, h⟩ e1 e2
  exact kk x μ' h e1 e2
theorem mj_kR {P : Option Nat → mj_MM → Prop} {N' S' q : Nat} {l0 : List (Nat × Value)} {s0 : List Value} (kk : ∀ (x : Option Nat) (μ' : mj_MM), P x μ' → mj_nc μ' = N' → mj_ns μ' = S' → mj_J G Y Ex N S q l0 (va_rf x :: s0) μ') : ∀ (v : Option Value) (μ' : mj_MM), mj_XR P v μ' → mj_nc μ' = N' → mj_ns μ' = S' → mj_J G Y Ex N S q l0 (v.toList ++ s0) μ' := by
  rintro v μ' ⟨x, rfl, h⟩ e1 e2
  exact kk x μ' h e1 e2
theorem mj_objInit {a idx : Nat} {rr : Option Nat} (hrr : rr = some a) (h1 : Cond.methodLink Y.1 idx Lib.objectInit ∈ md_Ts) (h2 : Cond.instanceMethod Lib.objectInit ∈ md_Ts) (h3 : Cond.code Lib.objectInit ⟨#[0xb1]⟩ 1 none ∈ md_Ts) (hdg : decode Y.2.1 pc = .ok (.invokespecial idx, 3)) (hf : 1 ≤ Y.2.2.2.1) (hlo : (st.map fun v => v.category).sum + 12 ≤ Y.2.2.2.2.1)
    (kk : mj_J G Y Ex N S (pc + 3) lv st μ) : mj_J G Y Ex N S pc lv (va_rf rr :: st) μ := by
  subst hrr
  intro p e R s m args below meth c Q C H locs cells slots ls hw hL hb hc hs hl
  exact W.objInit C.1 C.2.1 C.2.2.2.1 (C.2.2.2.2.1 _ h1) (C.2.2.2.2.1 _ h2) (C.2.2.2.2.1 _ h3) rfl (by rw [C.2.2.1]; exact hl.1) rfl hdg (Nat.le_trans hf C.2.2.2.2.2.2.1) (by have := C.2.2.2.2.2.2.2.1; show 2 * 0 + _ + 12 ≤ _; omega) (kk p e R s m args below meth c Q C H locs cells slots ls hw hL hb hc hs hl)
theorem mj_max {x y : Int32} {index : Nat} (h1 : Cond.methodLink Y.1 index Lib.Math.max.name ∈ md_Ts) (h2 : Cond.static Lib.Math.max.name ∈ md_Ts) (h3 : Cond.initialized "java/lang/Math" ∈ md_Ts) (h4 : Cond.code Lib.Math.max.name Lib.Math.max.code 2 (some .int) ∈ md_Ts) (hdg : decode Y.2.1 pc = .ok (.invokestatic index, 3)) (hf : 1 ≤ Y.2.2.2.1) (hlo : (st.map fun v => v.category).sum + 13 ≤ Y.2.2.2.2.1)
    (kk : mj_J G Y Ex N S (pc + 3) lv (.int (if x < y then y else x) :: st) μ) : mj_J G Y Ex N S pc lv (.int y :: .int x :: st) μ := by
  intro p e R s m args below meth c Q C H locs cells slots ls hw hL hb hc hs hl
  exact va_mmax C.1 C.2.1 (by rw [C.2.2.1]; exact hl.1.symm) C.2.2.2.1 (C.2.2.2.2.1 _ h1) (C.2.2.2.2.1 _ h2) (C.2.2.2.2.1 _ h3) (C.2.2.2.2.1 _ h4) (Nat.le_trans hf C.2.2.2.2.2.2.1) (Nat.le_trans hlo C.2.2.2.2.2.2.2.1) (by omega) (by omega) hdg (kk p e R s m args below meth c Q C H locs cells slots ls hw hL hb hc hs hl)
theorem mj_min {x y : Int32} {index : Nat} (h1 : Cond.methodLink Y.1 index Lib.Math.min.name ∈ md_Ts) (h2 : Cond.static Lib.Math.min.name ∈ md_Ts) (h3 : Cond.initialized "java/lang/Math" ∈ md_Ts) (h4 : Cond.code Lib.Math.min.name Lib.Math.min.code 2 (some .int) ∈ md_Ts) (hdg : decode Y.2.1 pc = .ok (.invokestatic index, 3)) (hf : 1 ≤ Y.2.2.2.1) (hlo : (st.map fun v => v.category).sum + 13 ≤ Y.2.2.2.2.1)
    (kk : mj_J G Y Ex N S (pc + 3) lv (.int (if y < x then y else x) :: st) μ) : mj_J G Y Ex N S pc lv (.int y :: .int x :: st) μ := by
  intro p e R s m args below meth c Q C H locs cells slots ls hw hL hb hc hs hl
  exact va_mmin C.1 C.2.1 (by rw [C.2.2.1]; exact hl.1.symm) C.2.2.2.1 (C.2.2.2.2.1 _ h1) (C.2.2.2.2.1 _ h2) (C.2.2.2.2.1 _ h3) (C.2.2.2.2.1 _ h4) (Nat.le_trans hf C.2.2.2.2.2.2.1) (Nat.le_trans hlo C.2.2.2.2.2.2.2.1) (by omega) (by omega) hdg (kk p e R s m args below meth c Q C H locs cells slots ls hw hL hb hc hs hl)
end MJC
section MJD
variable {G : mj_G} {Y : mj_Y} {Ex : Option Value → mj_MM → Prop} {N S pc : Nat} {lv : List (Nat × Value)} {st : List Value} {μ : mj_MM}
theorem mj_cell (cA : ClassId) (ty : FieldType) (a : Nat) : vp_cell cA (mj_arr ty μ a) = arrV cA (mj_n μ a) (fun j => mj_val ty μ a j) := by cases ty <;> rfl
theorem mj_W.arr {H : Heap} {a t : Nat} {ty : FieldType} (hw : mj_W G μ H) (hty : md_at[t]? = some ty) (ht : mj_t μ a = 1000 + t) : H[a]? = some (arrV (G.2.2.1.1 t) (mj_n μ a) (fun j => mj_val ty μ a j)) := by
  obtain ⟨ty', h1, h2⟩ := hw.2.2.2.2 a t ht
  cases hty.symm.trans h1
  rw [h2, mj_cell]
theorem mj_alen {a t : Nat} {rr : Option Nat} (hrr : rr = some a) {ty : FieldType} (hty : md_at[t]? = some ty) (ht : mj_t μ a = 1000 + t) (hdg : decode Y.2.1 pc = .ok (.arraylength, 1)) (kk : mj_J G Y Ex N S (pc + 1) lv (.int (nI (mj_n μ a)) :: st) μ) : mj_J G Y Ex N S pc lv (va_rf rr :: st) μ := by
  subst hrr
  intro p e R s m args below meth c Q C H locs cells slots ls hw hL hb hc hs hl
  exact W.alen (n := nI (mj_n μ a)) C.1 C.2.1 (hw.arr hty ht) ((C.2.2.2.2.2.1.2.1 t ty hty).1 _ _) (by rw [arrV_size]; rfl) rfl rfl hdg (kk p e R s m args below meth c Q C H locs cells slots ls hw hL hb hc hs hl)
theorem mj_inA {cA : ClassId} {n : Nat} {f : Nat → Value} {i : Int32} (hin : vp_in i n) : ¬ (i < 0 ∨ (arrV cA n f).slots.size ≤ i.toNatClampNeg) := by
  rw [arrV_size]
  exact hin
theorem mj_atA {cA : ClassId} {n : Nat} {f : Nat → Value} {i : Int32} (hin : vp_in i n) : (arrV cA n f).slots[i.toNatClampNeg]? = some (f i.toNatClampNeg) := arrV_read _ _ (Nat.not_le.mp fun q => hin (Or.inr q))
theorem mj_iald {a t : Nat} {rr : Option Nat} (hrr : rr = some a) {i : Int32} (hty : md_at[t]? = some .int) (ht : mj_t μ a = 1000 + t) (hin : vp_in i (mj_n μ a)) (hdg : decode Y.2.1 pc = .ok (.iaload, 1)) (kk : mj_J G Y Ex N S (pc + 1) lv (.int (mj_i μ a i.toNatClampNeg) :: st) μ) : mj_J G Y Ex N S pc lv (.int i :: va_rf rr :: st) μ := by
  subst hrr
  intro p e R s m args below meth c Q C H locs cells slots ls hw hL hb hc hs hl
  exact W.iald C.1 C.2.1 (hw.arr hty ht) ((C.2.2.2.2.2.1.2.1 t _ hty).1 _ _) (fun q => by cases q) (mj_inA hin) (mj_atA hin) rfl rfl hdg (kk p e R s m args below meth c Q C H locs cells slots ls hw hL hb hc hs hl)
theorem mj_sald {a t : Nat} {rr : Option Nat} (hrr : rr = some a) {i : Int32} (hty : md_at[t]? = some .short) (ht : mj_t μ a = 1000 + t) (hin : vp_in i (mj_n μ a)) (hdg : decode Y.2.1 pc = .ok (.saload, 1)) (kk : mj_J G Y Ex N S (pc + 1) lv (.int (mj_i μ a i.toNatClampNeg) :: st) μ) : mj_J G Y Ex N S pc lv (.int i :: va_rf rr :: st) μ := by
  subst hrr
  intro p e R s m args below meth c Q C H locs cells slots ls hw hL hb hc hs hl
  exact W.sald C.1 C.2.1 (hw.arr hty ht) ((C.2.2.2.2.2.1.2.1 t _ hty).1 _ _) (fun q => by cases q) (mj_inA hin) (mj_atA hin) rfl rfl hdg (kk p e R s m args below meth c Q C H locs cells slots ls hw hL hb hc hs hl)
theorem mj_zald {a t : Nat} {rr : Option Nat} (hrr : rr = some a) {i : Int32} (hty : md_at[t]? = some .boolean) (ht : mj_t μ a = 1000 + t) (hin : vp_in i (mj_n μ a)) (hdg : decode Y.2.1 pc = .ok (.baload, 1)) (kk : mj_J G Y Ex N S (pc + 1) lv (.int (mj_i μ a i.toNatClampNeg) :: st) μ) : mj_J G Y Ex N S pc lv (.int i :: va_rf rr :: st) μ := by
  subst hrr
  intro p e R s m args below meth c Q C H locs cells slots ls hw hL hb hc hs hl
  exact W.zald C.1 C.2.1 (hw.arr hty ht) ((C.2.2.2.2.2.1.2.1 t _ hty).1 _ _) (fun q => by cases q) (mj_inA hin) (mj_atA hin) rfl rfl hdg (kk p e R s m args below meth c Q C H locs cells slots ls hw hL hb hc hs hl)
theorem mj_lald {a t : Nat} {rr : Option Nat} (hrr : rr = some a) {i : Int32} (hty : md_at[t]? = some .long) (ht : mj_t μ a = 1000 + t) (hin : vp_in i (mj_n μ a)) (hdg : decode Y.2.1 pc = .ok (.laload, 1)) (kk : mj_J G Y Ex N S (pc + 1) lv (.long (mj_l μ a i.toNatClampNeg) :: st) μ) : mj_J G Y Ex N S pc lv (.int i :: va_rf rr :: st) μ := by
  subst hrr
  intro p e R s m args below meth c Q C H locs cells slots ls hw hL hb hc hs hl
  exact W.lald C.1 C.2.1 (hw.arr hty ht) ((C.2.2.2.2.2.1.2.1 t _ hty).1 _ _) (fun q => by cases q) (mj_inA hin) (mj_atA hin) rfl rfl hdg (kk p e R s m args below meth c Q C H locs cells slots ls hw hL hb hc hs hl)
theorem mj_aald {a t : Nat} {rr : Option Nat} (hrr : rr = some a) {i : Int32} {ty : FieldType} (hty : md_at[t]? = some ty) (hr : mj_ref ty = true) (ht : mj_t μ a = 1000 + t) (hin : vp_in i (mj_n μ a)) (hdg : decode Y.2.1 pc = .ok (.aaload, 1)) (kk : mj_J G Y Ex N S (pc + 1) lv (va_rf (mj_r μ a i.toNatClampNeg) :: st) μ) : mj_J G Y Ex N S pc lv (.int i :: va_rf rr :: st) μ := by
  subst hrr
  intro p e R s m args below meth c Q C H locs cells slots ls hw hL hb hc hs hl
  exact W.aald (ty := ty) C.1 C.2.1 (hw.arr hty ht) ((C.2.2.2.2.2.1.2.1 t _ hty).1 _ _) (by cases ty <;> first | rfl | (exact absurd hr Bool.false_ne_true)) (fun q => by cases q) (mj_inA hin) (by rw [mj_atA hin]; cases ty <;> first | rfl | (exact absurd hr Bool.false_ne_true)) rfl rfl hdg (kk p e R s m args below meth c Q C H locs cells slots ls hw hL hb hc hs hl)
/-- one array's cell has changed in one place -/
theorem mj_W.putA {H H' : Heap} {μ' : mj_MM} {a t k : Nat} {ty : FieldType} {v : Value} (hw : mj_W G μ H) (hty : md_at[t]? = some ty) (ht : mj_t μ a = 1000 + t)
    (e1 : H'[a]? = some ((arrV (G.2.2.1.1 t) (mj_n μ a) (fun j => mj_val ty μ a j)).setSlot k v)) (e2 : H'.size = H.size) (e3 : ∀ q, q ≠ a → H'[q]? = H[q]?) (h1 : ∀ b, mj_t μ' b = mj_t μ b) (h0 : mj_n μ' a = mj_n μ a)
    (h2 : ∀ j, mj_val ty μ' a j = updV (fun j => mj_val ty μ a j) k v j) (h3 : ∀ (b : Nat) (ty : FieldType) (j : Nat), b ≠ a → mj_val ty μ' b j = mj_val ty μ b j) (h4 : ∀ (b : Nat) (ty : FieldType), b ≠ a → mj_arr ty μ' b = mj_arr ty μ b) : mj_W G μ' H' := by
  obtain ⟨w1, w2, w3, w4, w5⟩ := hw
  have ha : G.2.2.2.size ≤ a := (w3 a (by rw [ht]; omega)).1
  refine ⟨by rw [e2]; exact w1, fun q hq => by rw [e3 q (by omega)]; exact w2 q hq, fun b hb => by rw [e2]; exact w3 b (by rw [← h1]; exact hb), fun b cj hj hb => ?_, fun b t' hb => ?_⟩
  · rw [h1] at hb
    by_cases hba : b = a
    · subst hba
      rw [ht] at hb
      omega
    · obtain ⟨r, g1, g2⟩ := w4 b cj hj hb
      exact ⟨r, g1, (g2.kept (e3 b hba)).to fun j _ => (h3 b _ j hba).symm⟩
  · rw [h1] at hb
    by_cases hba : b = a
    · subst hba
      have htt : t' = t := by rw [ht] at hb; omega
      subst htt
      refine ⟨ty, hty, ?_⟩
      rw [e1, mj_cell, arrV_store, h0]
      congr 2
      funext j
      exact (h2 j).symm
    · obtain ⟨q, g1, g2⟩ := w5 b t' hb
      exact ⟨q, g1, by rw [e3 b hba, h4 b _ hba]; exact g2⟩
theorem mj_iast {a t : Nat} {rr : Option Nat} (hrr : rr = some a) {i x : Int32} (hty : md_at[t]? = some .int) (ht : mj_t μ a = 1000 + t) (hin : vp_in i (mj_n μ a)) (hdg : decode Y.2.1 pc = .ok (.iastore, 1)) (kk : mj_J G Y Ex N S (pc + 1) lv st (mj_pI μ a i.toNatClampNeg x)) : mj_J G Y Ex N S pc lv (.int x :: .int i :: va_rf rr :: st) μ := by
  subst hrr
  intro p e R s m args below meth c Q C H locs cells slots ls hw hL hb hc hs hl
  have ha : G.2.2.2.size ≤ a := (hw.2.2.1 a (by rw [ht]; omega)).1
  refine W.iast C.1 C.2.1 (hw.arr hty ht) ((C.2.2.2.2.2.1.2.1 t _ hty).1 _ _) (fun q => by cases q) (mj_inA hin) rfl rfl hdg fun H' e1 e2 e3 => ?_
  refine kk p e R s m args below meth c Q C H' _ cells slots ls (hw.putA hty ht e1 e2 e3 (fun b => rfl) rfl (fun j => ?_) (fun b ty j hb => mj_val_pI ty a _ x hb) (fun b ty hb => mj_arr_pI ty a _ x hb)) (t_lc hL ha) hb hc hs hl
  by_cases hj : j = i.toNatClampNeg
  · subst hj
    simp [mj_val, mj_i, mj_pI, mj_u_self, updV]
  · simp [mj_val, mj_i, mj_pI, mj_u, updV, hj]
theorem mj_zast {a t : Nat} {rr : Option Nat} (hrr : rr = some a) {i x : Int32} (hty : md_at[t]? = some .boolean) (ht : mj_t μ a = 1000 + t) (hin : vp_in i (mj_n μ a)) (hx : narrow .boolean (.int x) = .int x) (hdg : decode Y.2.1 pc = .ok (.bastore, 1)) (kk : mj_J G Y Ex N S (pc + 1) lv st (mj_pI μ a i.toNatClampNeg x)) : mj_J G Y Ex N S pc lv (.int x :: .int i :: va_rf rr :: st) μ := by
  subst hrr
  intro p e R s m args below meth c Q C H locs cells slots ls hw hL hb hc hs hl
  have ha : G.2.2.2.size ≤ a := (hw.2.2.1 a (by rw [ht]; omega)).1
  refine W.zast C.1 C.2.1 (hw.arr hty ht) ((C.2.2.2.2.2.1.2.1 t _ hty).1 _ _) (fun q => by cases q) (mj_inA hin) rfl rfl hdg fun H' e1 e2 e3 => ?_
  rw [hx] at e1
  refine kk p e R s m args below meth c Q C H' _ cells slots ls (hw.putA hty ht e1 e2 e3 (fun b => rfl) rfl (fun j => ?_) (fun b ty j hb => mj_val_pI ty a _ x hb) (fun b ty hb => mj_arr_pI ty a _ x hb)) (t_lc hL ha) hb hc hs hl
  by_cases hj : j = i.toNatClampNeg
  · subst hj
    simp [mj_val, mj_i, mj_pI, mj_u_self, updV]
  · simp [mj_val, mj_i, mj_pI, mj_u, updV, hj]
theorem mj_sast {a t : Nat} {rr : Option Nat} (hrr : rr = some a) {i x : Int32} (hty : md_at[t]? = some .short) (ht : mj_t μ a = 1000 + t) (hin : vp_in i (mj_n μ a)) (hx : narrow .short (.int x) = .int x) (hdg : decode Y.2.1 pc = .ok (.sastore, 1)) (kk : mj_J G Y Ex N S (pc + 1) lv st (mj_pI μ a i.toNatClampNeg x)) : mj_J G Y Ex N S pc lv (.int x :: .int i :: va_rf rr :: st) μ := by
  subst hrr
  intro p e R s m args below meth c Q C H locs cells slots ls hw hL hb hc hs hl
  have ha : G.2.2.2.size ≤ a := (hw.2.2.1 a (by rw [ht]; omega)).1
  refine W.sast C.1 C.2.1 (hw.arr hty ht) ((C.2.2.2.2.2.1.2.1 t _ hty).1 _ _) (fun q => by cases q) (mj_inA hin) rfl rfl hdg fun H' e1 e2 e3 => ?_
  rw [hx] at e1
  refine kk p e R s m args below meth c Q C H' _ cells slots ls (hw.putA hty ht e1 e2 e3 (fun b => rfl) rfl (fun j => ?_) (fun b ty j hb => mj_val_pI ty a _ x hb) (fun b ty hb => mj_arr_pI ty a _ x hb)) (t_lc hL ha) hb hc hs hl
  by_cases hj : j = i.toNatClampNeg
  · subst hj
    simp [mj_val, mj_i, mj_pI, mj_u_self, updV]
  · simp [mj_val, mj_i, mj_pI, mj_u, updV, hj]
theorem mj_last {a t : Nat} {rr : Option Nat} (hrr : rr = some a) {i : Int32} {x : Int64} (hty : md_at[t]? = some .long) (ht : mj_t μ a = 1000 + t) (hin : vp_in i (mj_n μ a)) (hdg : decode Y.2.1 pc = .ok (.lastore, 1)) (kk : mj_J G Y Ex N S (pc + 1) lv st (mj_pL μ a i.toNatClampNeg x)) : mj_J G Y Ex N S pc lv (.long x :: .int i :: va_rf rr :: st) μ := by
  subst hrr
  intro p e R s m args below meth c Q C H locs cells slots ls hw hL hb hc hs hl
  have ha : G.2.2.2.size ≤ a := (hw.2.2.1 a (by rw [ht]; omega)).1
  refine W.last C.1 C.2.1 (hw.arr hty ht) ((C.2.2.2.2.2.1.2.1 t _ hty).1 _ _) (fun q => by cases q) (mj_inA hin) rfl rfl hdg fun H' e1 e2 e3 => ?_
  refine kk p e R s m args below meth c Q C H' _ cells slots ls (hw.putA hty ht e1 e2 e3 (fun b => rfl) rfl (fun j => ?_) (fun b ty j hb => mj_val_pL ty a _ x hb) (fun b ty hb => mj_arr_pL ty a _ x hb)) (t_lc hL ha) hb hc hs hl
  by_cases hj : j = i.toNatClampNeg
  · subst hj
    simp [mj_val, mj_l, mj_pL, mj_u_self, updV]
  · simp [mj_val, mj_l, mj_pL, mj_u, updV, hj]
theorem mj_upR {ty : FieldType} {a k : Nat} {x : Option Nat} (hr : mj_ref ty = true) (j : Nat) : mj_val ty (mj_pR μ a k x) a j = updV (fun j => mj_val ty μ a j) k (va_rf x) j := by
  unfold updV
  by_cases hj : j = k
  · subst hj
    rw [if_pos rfl]
    cases ty <;> first | (exact absurd hr Bool.false_ne_true) | (simp [mj_val, mj_r, mj_pR, mj_u_self])
  · rw [if_neg hj]
    cases ty <;> simp [mj_val, mj_i, mj_r, mj_l, mj_pR, mj_u, hj]
/-- an object of the component's class into an array of references -/
theorem mj_aast {a t v : Nat} {rr rv : Option Nat} (hrr : rr = some a) (hrv : rv = some v) {i : Int32} {ci : Nat} {Cn : String} {T : u_T} {NF : Nat} (hty : md_at[t]? = some (.object Cn)) (ht : mj_t μ a = 1000 + t) (hcl : mj_Cl ci Cn T NF) (hv : mj_t μ v = ci + 1) (hin : vp_in i (mj_n μ a)) (hdg : decode Y.2.1 pc = .ok (.aastore, 1)) (kk : mj_J G Y Ex N S (pc + 1) lv st (mj_pR μ a i.toNatClampNeg (some v))) : mj_J G Y Ex N S pc lv (va_rf rv :: .int i :: va_rf rr :: st) μ := by
  subst hrr; subst hrv
  intro p e R s m args below meth c Q C H locs cells slots ls hw hL hb hc hs hl
  have ha : G.2.2.2.size ≤ a := (hw.2.2.1 a (by rw [ht]; omega)).1
  obtain ⟨-, -, hA⟩ := C.2.2.2.2.2.1.2.1 t _ hty
  obtain ⟨kA, comp, q1, q2, q3, -⟩ := hA rfl
  obtain ⟨cell, g1, g2, g3, -⟩ := hw.obj hcl hv
  have hK := C.2.2.2.2.2.1.1.1 ci _ hcl.2.1
  have hcomp : comp = G.2.1.1 ci := Option.some.inj (q3.symm.trans hK.2.1)
  obtain ⟨-, kC, hkC, -⟩ := hK.2
  refine W.aast C.1 C.2.1 (hw.arr hty ht) (fun q h => by cases h) (fun h => by cases h) q1 q2 rfl (by rw [hcomp]; exact hkC) ⟨fun q => hin (Or.inl q), by rw [arrV_size]; exact Nat.not_le.mp fun q => hin (Or.inr q)⟩ g1 (fun q h => by rw [g3] at h; cases h) (by rw [g2]; exact hkC) (by rw [g2, hcomp]; exact va_asg _ _) rfl rfl hdg fun H' e1 e2 e3 => ?_
  exact kk p e R s m args below meth c Q C H' _ cells slots ls (hw.putA (v := va_rf (some v)) hty ht e1 e2 e3 (fun b => rfl) rfl (mj_upR rfl) (fun b ty j hb => mj_val_pR ty a _ _ hb) (fun b ty hb => mj_arr_pR ty a _ _ hb)) (t_lc hL ha) hb hc hs hl
/-- null into an array of objects -/
theorem mj_aastN {a t : Nat} {rr rv : Option Nat} (hrr : rr = some a) (hrv : rv = none) {i : Int32} {Cn : String} (hty : md_at[t]? = some (.object Cn)) (ht : mj_t μ a = 1000 + t) (hin : vp_in i (mj_n μ a)) (hdg : decode Y.2.1 pc = .ok (.aastore, 1)) (kk : mj_J G Y Ex N S (pc + 1) lv st (mj_pR μ a i.toNatClampNeg none)) : mj_J G Y Ex N S pc lv (va_rf rv :: .int i :: va_rf rr :: st) μ := by
  subst hrr; subst hrv
  intro p e R s m args below meth c Q C H locs cells slots ls hw hL hb hc hs hl
  have ha : G.2.2.2.size ≤ a := (hw.2.2.1 a (by rw [ht]; omega)).1
  refine va_WaastN C.1 C.2.1 (hw.arr hty ht) ((C.2.2.2.2.2.1.2.1 t _ hty).1 _ _) (fun q => by cases q) (mj_inA hin) rfl rfl hdg fun H' e1 e2 e3 => ?_
  exact kk p e R s m args below meth c Q C H' _ cells slots ls (hw.putA (v := va_rf none) hty ht e1 e2 e3 (fun b => rfl) rfl (mj_upR rfl) (fun b ty j hb => mj_val_pR ty a _ _ hb) (fun b ty hb => mj_arr_pR ty a _ _ hb)) (t_lc hL ha) hb hc hs hl
/-- an array into an array of arrays -/
theorem mj_aastA {a t v tv : Nat} {rr rv : Option Nat} (hrr : rr = some a) (hrv : rv = some v) {i : Int32} {tc : FieldType} (hty : md_at[t]? = some (.array tc)) (ht : mj_t μ a = 1000 + t) (htv : md_at[tv]? = some tc) (hv : mj_t μ v = 1000 + tv) (hin : vp_in i (mj_n μ a)) (hdg : decode Y.2.1 pc = .ok (.aastore, 1)) (kk : mj_J G Y Ex N S (pc + 1) lv st (mj_pR μ a i.toNatClampNeg (some v))) : mj_J G Y Ex N S pc lv (va_rf rv :: .int i :: va_rf rr :: st) μ := by
  subst hrr; subst hrv
  intro p e R s m args below meth c Q C H locs cells slots ls hw hL hb hc hs hl
  have ha : G.2.2.2.size ≤ a := (hw.2.2.1 a (by rw [ht]; omega)).1
  obtain ⟨-, -, hA⟩ := C.2.2.2.2.2.1.2.1 t _ hty
  obtain ⟨kA, comp, q1, q2, q3, -⟩ := hA rfl
  have g1 := hw.arr htv hv
  obtain ⟨g2, g3, -⟩ := C.2.2.2.2.2.1.2.1 tv _ htv
  have hcomp : comp = G.2.2.1.1 tv := Option.some.inj (q3.symm.trans g3)
  obtain ⟨kC, hkC, -⟩ := Vm.findClass_spec g3
  refine W.aast C.1 C.2.1 (hw.arr hty ht) (fun q h => by cases h) (fun h => by cases h) q1 q2 rfl (by rw [hcomp]; exact hkC) ⟨fun q => hin (Or.inl q), by rw [arrV_size]; exact Nat.not_le.mp fun q => hin (Or.inr q)⟩ g1 (fun q h => by cases h) hkC (by rw [hcomp]; exact va_asg _ _) rfl rfl hdg fun H' e1 e2 e3 => ?_
  exact kk p e R s m args below meth c Q C H' _ cells slots ls (hw.putA (v := va_rf (some v)) hty ht e1 e2 e3 (fun b => rfl) rfl (mj_upR rfl) (fun b ty j hb => mj_val_pR ty a _ _ hb) (fun b ty hb => mj_arr_pR ty a _ _ hb)) (t_lc hL ha) hb hc hs hl
theorem mj_blankA (ty : FieldType) (a t n k0 : Nat) (cA : ClassId) (d : Value) (hd : d = mj_dv ty) : vp_cell cA (mj_arr ty (mj_new μ a t n k0) a) = arrV cA n (fun _ => d) := by
  rw [mj_cell]
  have e : mj_n (mj_new μ a t n k0) a = n := by simp [mj_n, mj_new, mj_w]
  rw [e]
  congr 1
  funext j
  rw [mj_val_new, hd]
theorem mj_newa {t : Nat} {ty : FieldType} {atype : ArrayType} {n : Int32} {NA : Nat} (hty : md_at[t]? = some ty) (hat : newarray.typeOf atype = ty) (hd : defaultValue ty = mj_dv ty) (hw0 : Cond.arrayClass ty ∈ md_Ts) (hdg : decode Y.2.1 pc = .ok (.newarray atype, 2)) (hn : n = nI NA) (hN : NA * componentBytes ty ≤ 536870912) (hN2 : NA < 2 ^ 31) (h1 : mj_nc μ + 1 ≤ N) (h2 : mj_ns μ + NA ≤ S)
    (kk : ∀ a : Nat, mj_t μ a = 0 → mj_J G Y Ex N S (pc + 2) lv (va_rf (some a) :: st) (mj_new μ a (1000 + t) NA NA)) : mj_J G Y Ex N S pc lv (.int n :: st) μ := by
  intro p e R s m args below meth c Q C H locs cells slots ls hw hL hb hc hs hl
  subst hn
  obtain ⟨hb1, hb2⟩ := hb
  subst hat
  have hcl : (nI NA).toNatClampNeg = NA := nI_clamp hN2
  refine va_newaK C.1 C.2.1 (C.2.2.2.2.1 _ hw0) rfl hdg rfl (nI_pos hN2) hcl hN (by omega) (by omega) rfl fun H1 cA e1 z1 o1 hAr hNm => ?_
  have hcA : cA = G.2.2.1.1 t := Option.some.inj (hNm.symm.trans (C.2.2.2.2.2.1.2.1 t _ hty).2.1)
  refine kk H.size hw.free p e R s m args below meth c Q C H1 locs (cells + 1) (slots + NA) ls (hw.new o1 z1 (fun cj hj e => by omega) (fun k e => ?_)) hL ⟨h1, h2⟩ (by show cells + 1 + (N - (mj_nc μ + 1)) ≤ _; omega) (by show slots + NA + (S - (mj_ns μ + NA)) ≤ _; omega) hl
  have hk : k = t := by omega
  subst hk
  exact ⟨_, hty, by rw [e1, mj_blankA _ _ _ _ _ _ _ hd, hcA]⟩
theorem mj_push {H : Heap} {cell : Cell} : (∀ q, q < H.size → (H.push cell)[q]? = H[q]?) ∧ (H.push cell)[H.size]? = some cell ∧ (H.push cell).size = H.size + 1 := by
  refine ⟨fun q hq => ?_, by simp, by simp⟩
  rw [Array.getElem?_push]
  simp [Nat.ne_of_lt hq]
theorem mj_newq {t index : Nat} {Cn : String} {n : Int32} {NA : Nat} (hty : md_at[t]? = some (.object Cn)) (hcl : Cond.classLink Y.1 index Cn ∈ md_Ts) (hdg : decode Y.2.1 pc = .ok (.anewarray index, 3)) (hn : n = nI NA) (hN : NA * 4 ≤ 536870912) (h1 : mj_nc μ + 1 ≤ N) (h2 : mj_ns μ + NA ≤ S)
    (kk : ∀ a : Nat, mj_t μ a = 0 → mj_J G Y Ex N S (pc + 3) lv (va_rf (some a) :: st) (mj_new μ a (1000 + t) NA NA)) : mj_J G Y Ex N S pc lv (.int n :: st) μ := by
  intro p e R s m args below meth c Q C H locs cells slots ls hw hL hb hc hs hl
  subst hn
  obtain ⟨hb1, hb2⟩ := hb
  have hN2 : NA < 2 ^ 31 := by omega
  have hcl2 : (nI NA).toNatClampNeg = NA := nI_clamp hN2
  have hA := C.2.2.2.2.2.1.2.1 t _ hty
  refine W.anew C.1 C.2.1 C.2.2.2.1 (C.2.2.2.2.1 _ hcl) (hA.over rfl) rfl hdg rfl (nI_pos hN2) (by rw [hcl2]; exact hN) (by omega) (by rw [hcl2]; omega) fun cA kA comp f1 f2 f3 f4 => ?_
  have hcA : cA = G.2.2.1.1 t := Option.some.inj (f1.symm.trans hA.2.1)
  obtain ⟨o1, e1, z1⟩ := mj_push (H := H) (cell := { cls := cA, slots := Array.replicate (nI NA).toNatClampNeg .null, vm := .none })
  rw [hcl2] at e1 z1 o1 ⊢
  refine kk H.size hw.free p e R s m args below meth c Q C _ locs (cells + 1) (slots + NA) ls (hw.new o1 z1 (fun cj hj e => by omega) (fun k e => ?_)) hL ⟨h1, h2⟩ (by show cells + 1 + (N - (mj_nc μ + 1)) ≤ _; omega) (by show slots + NA + (S - (mj_ns μ + NA)) ≤ _; omega) hl
  have hk : k = t := by omega
  subst hk
  refine ⟨_, hty, ?_⟩
  rw [e1, mj_blankA _ _ _ _ _ _ .null rfl, hcA]
  simp only [arrV]
  congr 2
  apply Array.ext <;> simp
theorem mj_newqA {t index : Nat} {tc : FieldType} {n : Int32} {NA : Nat} (hty : md_at[t]? = some (.array tc)) (hcl : Cond.classLink Y.1 index (FieldType.array tc).toString ∈ md_Ts) (hdg : decode Y.2.1 pc = .ok (.anewarray index, 3)) (hn : n = nI NA) (hN : NA * 4 ≤ 536870912) (h1 : mj_nc μ + 1 ≤ N) (h2 : mj_ns μ + NA ≤ S)
    (kk : ∀ a : Nat, mj_t μ a = 0 → mj_J G Y Ex N S (pc + 3) lv (va_rf (some a) :: st) (mj_new μ a (1000 + t) NA NA)) : mj_J G Y Ex N S pc lv (.int n :: st) μ := by
  intro p e R s m args below meth c Q C H locs cells slots ls hw hL hb hc hs hl
  subst hn
  obtain ⟨hb1, hb2⟩ := hb
  have hN2 : NA < 2 ^ 31 := by omega
  have hcl2 : (nI NA).toNatClampNeg = NA := nI_clamp hN2
  have hA := C.2.2.2.2.2.1.2.1 t _ hty
  refine W.anewA C.1 C.2.1 C.2.2.2.1 (C.2.2.2.2.1 _ hcl) (hA.over rfl) rfl hdg rfl (nI_pos hN2) (by rw [hcl2]; exact hN) (by omega) (by rw [hcl2]; omega) fun cA kA comp f1 f2 f3 f4 => ?_
  have hcA : cA = G.2.2.1.1 t := Option.some.inj (f1.symm.trans hA.2.1)
  obtain ⟨o1, e1, z1⟩ := mj_push (H := H) (cell := { cls := cA, slots := Array.replicate (nI NA).toNatClampNeg .null, vm := .none })
  rw [hcl2] at e1 z1 o1 ⊢
  refine kk H.size hw.free p e R s m args below meth c Q C _ locs (cells + 1) (slots + NA) ls (hw.new o1 z1 (fun cj hj e => by omega) (fun k e => ?_)) hL ⟨h1, h2⟩ (by show cells + 1 + (N - (mj_nc μ + 1)) ≤ _; omega) (by show slots + NA + (S - (mj_ns μ + NA)) ≤ _; omega) hl
  have hk : k = t := by omega
  subst hk
  refine ⟨_, hty, ?_⟩
  rw [e1, mj_blankA _ _ _ _ _ _ .null rfl, hcA]
  simp only [arrV]
  congr 2
  apply Array.ext <;> simp
/-- an old array of ints: the class's tables, the script -/
theorem mj_old {H : Heap} {s : State} {j : Nat} (hj : j < 3) (hw : mj_W G μ H) (hK : mj_K G s) : va_T .int (G.2.2.1.2 j).1 (G.2.2.1.2 j).2.1 (fun k => .int ((G.2.2.1.2 j).2.2 k)) (fun q => G.2.2.2.size ≤ q) s H :=
  (hK.2.2.1 j hj).kept fun a ha hA => hw.2.1 a ha
theorem mj_oldlen {a j : Nat} {rr : Option Nat} (hrr : rr = some a) (hj : j < 3) (ha : a = (G.2.2.1.2 j).1) (hdg : decode Y.2.1 pc = .ok (.arraylength, 1)) (kk : mj_J G Y Ex N S (pc + 1) lv (.int (nI (G.2.2.1.2 j).2.1) :: st) μ) : mj_J G Y Ex N S pc lv (va_rf rr :: st) μ := by
  subst hrr
  subst ha
  intro p e R s m args below meth c Q C H locs cells slots ls hw hL hb hc hs hl
  obtain ⟨cell, h1, h2, h3, h4, h5, -⟩ := mj_old hj hw C.2.2.2.2.2.1
  exact W.alen (n := nI (G.2.2.1.2 j).2.1) C.1 C.2.1 h1 h2 h5 rfl rfl hdg (kk p e R s m args below meth c Q C H locs cells slots ls hw hL hb hc hs hl)
theorem mj_oldld {a j : Nat} {rr : Option Nat} {i : Int32} (hrr : rr = some a) (hj : j < 3) (ha : a = (G.2.2.1.2 j).1) (hin : vp_in i (G.2.2.1.2 j).2.1) (hdg : decode Y.2.1 pc = .ok (.iaload, 1)) (kk : mj_J G Y Ex N S (pc + 1) lv (.int ((G.2.2.1.2 j).2.2 i.toNatClampNeg) :: st) μ) : mj_J G Y Ex N S pc lv (.int i :: va_rf rr :: st) μ := by
  subst hrr
  subst ha
  intro p e R s m args below meth c Q C H locs cells slots ls hw hL hb hc hs hl
  obtain ⟨cell, h1, h2, h3, h4, h5, h6, -⟩ := mj_old hj hw C.2.2.2.2.2.1
  have hlt : i.toNatClampNeg < (G.2.2.1.2 j).2.1 := Nat.not_le.mp fun q => hin (Or.inr q)
  exact W.iald C.1 C.2.1 h1 h2 h3 (fun q => by rcases q with q | q; exact hin (Or.inl q); omega) (h6 _ hlt) rfl rfl hdg (kk p e R s m args below meth c Q C H locs cells slots ls hw hL hb hc hs hl)
theorem mj_gets {j index : Nat} {nm : String} (hj : j < 2) (hnm : nm = mj_snm j) (hlink : Cond.fieldLink Y.1 index "TaskCores" nm "[I" ∈ md_Ts) (hdg : decode Y.2.1 pc = .ok (.getstatic index, 3)) (kk : mj_J G Y Ex N S (pc + 3) lv (va_rf (some (G.2.2.1.2 j).1) :: st) μ) : mj_J G Y Ex N S pc lv st μ := by
  subst hnm
  intro p e R s m args below meth c Q C H locs cells slots ls hw hL hb hc hs hl
  obtain ⟨cf, kf, fi, f, a, cell, h1, h2, h3, h4, h5, h6, h7, h8⟩ := (C.2.2.2.2.2.1.2.2.2.1 j hj).kept (H1 := H) fun a ha hA => hw.2.1 a ha
  exact W.gets C.1 C.2.1 C.2.2.2.1 (C.2.2.2.2.1 _ hlink) h1 h2 h3 h4 h5 (fun e => by rw [e] at h6; cases h6) h7 rfl hdg (kk p e R s m args below meth c Q C H locs cells slots ls hw hL hb hc hs hl)
theorem mj_callIN {y : MethodName} {Yc : mj_Y} {b index N' S' n : Nat} {As : List Value} {rr : Option Nat} {Ex' : Option Value → mj_MM → Prop} (hrr : rr = some b) (hM : mj_M G y Yc (va_rf (some b) :: As) N' S' μ Ex') (hln : (Y.1, index, y) ∈ md_nest) (hini : Cond.initialized y.cls ∈ md_Ts) (hcode : Cond.code y Yc.2.1 Yc.2.2.1 Yc.2.2.2.2.2.1 ∈ md_Ts)
    (hd : y.cls ≠ "java/lang/invoke/MethodHandle" ∧ y.cls ≠ "java/lang/invoke/VarHandle" ∧ (parseMethodDescriptor y.desc).map (fun d => d.parameters.length) = some n) (hfr : Yc.2.2.2.1 + 1 ≤ Y.2.2.2.1) (hlo : 8 + (Yc.2.2.1 + 11) + Yc.2.2.2.2.1 ≤ Y.2.2.2.2.1)
    (hret : Yc.2.2.2.2.2.1 = none) (hinit : y.name = "<init>") (hinst : Cond.instanceMethod y ∈ md_Ts) (hn : As.length = n) (hdg : decode Y.2.1 pc = .ok (.invokespecial index, 3)) (hst : (st.map fun v => v.category).sum ≤ 8) (h1 : N' ≤ N ∧ S' ≤ S)
    (kk : ∀ (v : Option Value) (μ' : mj_MM), Ex' v μ' → mj_nc μ' = N' → mj_ns μ' = S' → mj_J G Y Ex N S (pc + 3) lv (v.toList ++ st) μ') : mj_J G Y Ex N S pc lv (As.reverse ++ va_rf rr :: st) μ := by
  subst hrr
  intro p e R s m args below meth c Q C H locs cells slots ls hw hL hb hc hs hl
  obtain ⟨hb0, hM⟩ := hM
  rw [hret] at hM hcode
  exact mj_after (a := (va_rf (some b) :: As).toArray) C hb0 (va_runIN (As := As) (rest := st) (Ts := md_Ts) (nL := Y.2.2.1) (host := "TaskCores") ⟨C.1, C.2.1, C.2.2.1, C.2.2.2.1, C.2.2.2.2.1⟩ hM ⟨va_cnB (Ts := md_Ts) n C.2.2.2.2.1 (fun w hw => by
    rcases List.mem_cons.mp hw with rfl | hw
    · exact ⟨hcode, good_of_word (mj_good _ hcode)⟩
    · exact ⟨hw, good_of_word (mj_good _ hw)⟩) rfl rfl rfl (C.2.2.2.2.2.1.2.2.2.2 _ hln) (C.2.2.2.2.1 _ hini) hd ⟨Nat.le_trans hfr C.2.2.2.2.2.2.1, Nat.le_trans hlo C.2.2.2.2.2.2.2.1⟩, hinit, C.2.2.2.2.1 _ hinst⟩ ⟨mj_blind, fun U hU hWm => ⟨rfl, by rw [hU]; exact hw, mj_K.warm hWm C.2.2.2.2.2.1⟩⟩ rfl hn hl.1 rfl (lv_room hst) hdg ⟨by omega, by omega⟩) hL hb hc hs hl h1 kk
end MJD
end
section
abbrev mc_T_init : ByteArray := prog_1_method_1_code
abbrev my_T_init : MethodName := ⟨mR_T, "<init>", "(I)V"⟩
abbrev mY_T_init : mj_Y := (mR_T, mc_T_init, 4, 3, 63, none, true)
abbrev mc_T_task : ByteArray := prog_1_method_2_code
abbrev my_T_task : MethodName := ⟨mR_T, "task", "(IIIZ)I"⟩
abbrev mY_T_task : mj_Y := (mR_T, mc_T_task, 8, 3, 68, some (.int), false)
abbrev mc_T_part : ByteArray := prog_1_method_3_code
abbrev my_T_part : MethodName := ⟨mR_T, "part", "(IIJ)I"⟩
abbrev mY_T_part : mj_Y := (mR_T, mc_T_part, 8, 2, 43, some (.int), false)
abbrev mc_T_manner : ByteArray := prog_1_method_4_code
abbrev my_T_manner : MethodName := ⟨mR_T, "manner", "(IZ)I"⟩
abbrev mY_T_manner : mj_Y := (mR_T, mc_T_manner, 4, 1, 21, some (.int), false)
abbrev mc_T_activate : ByteArray := prog_1_method_5_code
abbrev my_T_activate : MethodName := ⟨mR_T, "activate", "(IJ)I"⟩
abbrev mY_T_activate : mj_Y := (mR_T, mc_T_activate, 5, 2, 43, some (.int), false)
abbrev mc_T_interrupt : ByteArray := prog_1_method_6_code
abbrev my_T_interrupt : MethodName := ⟨mR_T, "interrupt", "(IJJ)I"⟩
abbrev mY_T_interrupt : mj_Y := (mR_T, mc_T_interrupt, 6, 2, 44, some (.int), false)
abbrev mc_T_run : ByteArray := prog_1_method_7_code
abbrev my_T_run : MethodName := ⟨mR_T, "run", "(J)I"⟩
abbrev mY_T_run : mj_Y := (mR_T, mc_T_run, 10, 6, 142, some (.int), false)
abbrev mc_T_now : ByteArray := prog_1_method_8_code
abbrev my_T_now : MethodName := ⟨mR_T, "now", "()J"⟩
abbrev mY_T_now : mj_Y := (mR_T, mc_T_now, 1, 0, 0, some (.long), false)
abbrev mc_T_running : ByteArray := prog_1_method_9_code
abbrev my_T_running : MethodName := ⟨mR_T, "running", "(IJ)I"⟩
abbrev mY_T_running : mj_Y := (mR_T, mc_T_running, 5, 2, 48, some (.int), false)
abbrev mc_T_used : ByteArray := prog_1_method_10_code
abbrev my_T_used : MethodName := ⟨mR_T, "used", "(I)J"⟩
abbrev mY_T_used : mj_Y := (mR_T, mc_T_used, 3, 1, 21, some (.long), false)
abbrev mc_T_state : ByteArray := prog_1_method_11_code
abbrev my_T_state : MethodName := ⟨mR_T, "state", "(I)I"⟩
abbrev mY_T_state : mj_Y := (mR_T, mc_T_state, 3, 1, 21, some (.int), false)
abbrev mc_T_event : ByteArray := prog_1_method_12_code
abbrev my_T_event : MethodName := ⟨mR_T, "event", "(II)I"⟩
abbrev mY_T_event : mj_Y := (mR_T, mc_T_event, 4, 2, 43, some (.int), false)
abbrev mc_T_events : ByteArray := prog_1_method_13_code
abbrev my_T_events : MethodName := ⟨mR_T, "events", "(I)I"⟩
abbrev mY_T_events : mj_Y := (mR_T, mc_T_events, 3, 1, 21, some (.int), false)
abbrev mc_T_code : ByteArray := prog_1_method_14_code
abbrev my_T_code : MethodName := ⟨mR_T, "code", "(II)I"⟩
abbrev mY_T_code : mj_Y := (mR_T, mc_T_code, 3, 1, 23, some (.int), false)
abbrev mc_T_order : ByteArray := prog_1_method_15_code
abbrev my_T_order : MethodName := ⟨mR_T, "order", "(II)I"⟩
abbrev mY_T_order : mj_Y := (mR_T, mc_T_order, 3, 1, 23, some (.int), false)
abbrev mc_T_spin : ByteArray := prog_1_method_16_code
abbrev my_T_spin : MethodName := ⟨mR_T, "spin", "(II)I"⟩
abbrev mY_T_spin : mj_Y := (mR_T, mc_T_spin, 6, 1, 22, some (.int), false)
abbrev mc_T_holder : ByteArray := prog_1_method_17_code
abbrev my_T_holder : MethodName := ⟨mR_T, "holder", "(I)I"⟩
abbrev mY_T_holder : mj_Y := (mR_T, mc_T_holder, 3, 1, 21, some (.int), false)
abbrev mc_T_coreOf : ByteArray := prog_1_method_18_code
abbrev my_T_coreOf : MethodName := ⟨mR_T, "coreOf", "(I)LTaskCores$Core;"⟩
abbrev mY_T_coreOf : mj_Y := (mR_T, mc_T_coreOf, 2, 0, 0, some (.object "TaskCores$Core"), false)
abbrev mc_T_taskOf : ByteArray := prog_1_method_19_code
abbrev my_T_taskOf : MethodName := ⟨mR_T, "taskOf", "(I)LTaskCores$Task;"⟩
abbrev mY_T_taskOf : mj_Y := (mR_T, mc_T_taskOf, 2, 0, 0, some (.object "TaskCores$Task"), false)
abbrev mc_T_resourceOf : ByteArray := prog_1_method_20_code
abbrev my_T_resourceOf : MethodName := ⟨mR_T, "resourceOf", "(I)LTaskCores$Resource;"⟩
abbrev mY_T_resourceOf : mj_Y := (mR_T, mc_T_resourceOf, 2, 0, 0, some (.object "TaskCores$Resource"), false)
abbrev mc_T_lockOf : ByteArray := prog_1_method_21_code
abbrev my_T_lockOf : MethodName := ⟨mR_T, "lockOf", "(I)LTaskCores$Lock;"⟩
abbrev mY_T_lockOf : mj_Y := (mR_T, mc_T_lockOf, 2, 0, 0, some (.object "TaskCores$Lock"), false)
abbrev mc_T_isToCome : ByteArray := prog_1_method_22_code
abbrev my_T_isToCome : MethodName := ⟨mR_T, "isToCome", "(J)Z"⟩
abbrev mY_T_isToCome : mj_Y := (mR_T, mc_T_isToCome, 3, 0, 0, some (.boolean), false)
abbrev mc_T_mayBePart : ByteArray := prog_1_method_23_code
abbrev my_T_mayBePart : MethodName := ⟨mR_T, "mayBePart", "(IJ)Z"⟩
abbrev mY_T_mayBePart : mj_Y := (mR_T, mc_T_mayBePart, 3, 0, 0, some (.boolean), false)
abbrev mc_T_addTelling : ByteArray := prog_1_method_24_code
abbrev my_T_addTelling : MethodName := ⟨mR_T, "addTelling", "(LTaskCores$Telling;)V"⟩
abbrev mY_T_addTelling : mj_Y := (mR_T, mc_T_addTelling, 4, 0, 0, none, false)
abbrev mc_T_activateThoseTold : ByteArray := prog_1_method_25_code
abbrev my_T_activateThoseTold : MethodName := ⟨mR_T, "activateThoseTold", "()V"⟩
abbrev mY_T_activateThoseTold : mj_Y := (mR_T, mc_T_activateThoseTold, 2, 3, 68, none, false)
abbrev mc_T_takeSteps : ByteArray := prog_1_method_26_code
abbrev my_T_takeSteps : MethodName := ⟨mR_T, "takeSteps", "()V"⟩
abbrev mY_T_takeSteps : mj_Y := (mR_T, mc_T_takeSteps, 9, 5, 114, none, false)
abbrev mc_T_taskWithStep : ByteArray := prog_1_method_27_code
abbrev my_T_taskWithStep : MethodName := ⟨mR_T, "taskWithStep", "(LTaskCores$Core;)LTaskCores$Task;"⟩
abbrev mY_T_taskWithStep : mj_Y := (mR_T, mc_T_taskWithStep, 5, 4, 90, some (.object "TaskCores$Task"), false)
abbrev mc_T_choose : ByteArray := prog_1_method_28_code
abbrev my_T_choose : MethodName := ⟨mR_T, "choose", "(LTaskCores$Core;)V"⟩
abbrev mY_T_choose : mj_Y := (mR_T, mc_T_choose, 5, 3, 66, none, false)
abbrev mc_T_startsToSpin : ByteArray := prog_1_method_29_code
abbrev my_T_startsToSpin : MethodName := ⟨mR_T, "startsToSpin", "(LTaskCores$Task;LTaskCores$Lock;)Z"⟩
abbrev mY_T_startsToSpin : mj_Y := (mR_T, mc_T_startsToSpin, 2, 1, 23, some (.boolean), false)
abbrev mc_T_doNextPart : ByteArray := prog_1_method_30_code
abbrev my_T_doNextPart : MethodName := ⟨mR_T, "doNextPart", "(LTaskCores$Task;)V"⟩
abbrev mY_T_doNextPart : mj_Y := (mR_T, mc_T_doNextPart, 4, 4, 91, none, false)
abbrev mc_T_activateByTask : ByteArray := prog_1_method_31_code
abbrev my_T_activateByTask : MethodName := ⟨mR_T, "activateByTask", "(LTaskCores$Task;I)V"⟩
abbrev mY_T_activateByTask : mj_Y := (mR_T, mc_T_activateByTask, 4, 3, 68, none, false)
abbrev mc_T_chain : ByteArray := prog_1_method_32_code
abbrev my_T_chain : MethodName := ⟨mR_T, "chain", "(LTaskCores$Task;I)V"⟩
abbrev mY_T_chain : mj_Y := (mR_T, mc_T_chain, 4, 3, 68, none, false)
abbrev mc_T_waitFor : ByteArray := prog_1_method_33_code
abbrev my_T_waitFor : MethodName := ⟨mR_T, "waitFor", "(LTaskCores$Task;I)V"⟩
abbrev mY_T_waitFor : mj_Y := (mR_T, mc_T_waitFor, 3, 2, 47, none, false)
abbrev mc_T_setByTask : ByteArray := prog_1_method_34_code
abbrev my_T_setByTask : MethodName := ⟨mR_T, "setByTask", "(LTaskCores$Task;II)V"⟩
abbrev mY_T_setByTask : mj_Y := (mR_T, mc_T_setByTask, 5, 2, 47, none, false)
abbrev mc_T_clearEvents : ByteArray := prog_1_method_35_code
abbrev my_T_clearEvents : MethodName := ⟨mR_T, "clearEvents", "(LTaskCores$Task;I)V"⟩
abbrev mY_T_clearEvents : mj_Y := (mR_T, mc_T_clearEvents, 3, 2, 47, none, false)
abbrev mc_T_getResource : ByteArray := prog_1_method_36_code
abbrev my_T_getResource : MethodName := ⟨mR_T, "getResource", "(LTaskCores$Task;LTaskCores$Resource;)V"⟩
abbrev mY_T_getResource : mj_Y := (mR_T, mc_T_getResource, 3, 2, 47, none, false)
abbrev mc_T_freeResource : ByteArray := prog_1_method_37_code
abbrev my_T_freeResource : MethodName := ⟨mR_T, "freeResource", "(LTaskCores$Task;LTaskCores$Resource;)V"⟩
abbrev mY_T_freeResource : mj_Y := (mR_T, mc_T_freeResource, 3, 2, 47, none, false)
abbrev mc_T_takeLock : ByteArray := prog_1_method_38_code
abbrev my_T_takeLock : MethodName := ⟨mR_T, "takeLock", "(LTaskCores$Task;LTaskCores$Lock;)V"⟩
abbrev mY_T_takeLock : mj_Y := (mR_T, mc_T_takeLock, 3, 2, 47, none, false)
abbrev mc_T_unlock : ByteArray := prog_1_method_39_code
abbrev my_T_unlock : MethodName := ⟨mR_T, "unlock", "(LTaskCores$Task;LTaskCores$Lock;)V"⟩
abbrev mY_T_unlock : mj_Y := (mR_T, mc_T_unlock, 3, 2, 47, none, false)
abbrev mc_T_putOff : ByteArray := prog_1_method_40_code
abbrev my_T_putOff : MethodName := ⟨mR_T, "putOff", "(LTaskCores$Task;I)V"⟩
abbrev mY_T_putOff : mj_Y := (mR_T, mc_T_putOff, 3, 2, 47, none, false)
abbrev mc_T_putOn : ByteArray := prog_1_method_41_code
abbrev my_T_putOn : MethodName := ⟨mR_T, "putOn", "(LTaskCores$Task;)V"⟩
abbrev mY_T_putOn : mj_Y := (mR_T, mc_T_putOn, 2, 2, 47, none, false)
abbrev mc_T_setEvents : ByteArray := prog_1_method_42_code
abbrev my_T_setEvents : MethodName := ⟨mR_T, "setEvents", "(LTaskCores$Task;I)V"⟩
abbrev mY_T_setEvents : mj_Y := (mR_T, mc_T_setEvents, 3, 1, 21, none, false)
abbrev mc_T_activateTask : ByteArray := prog_1_method_43_code
abbrev my_T_activateTask : MethodName := ⟨mR_T, "activateTask", "(LTaskCores$Task;)V"⟩
abbrev mY_T_activateTask : mj_Y := (mR_T, mc_T_activateTask, 2, 2, 47, none, false)
abbrev mc_T_endTask : ByteArray := prog_1_method_44_code
abbrev my_T_endTask : MethodName := ⟨mR_T, "endTask", "(LTaskCores$Task;)V"⟩
abbrev mY_T_endTask : mj_Y := (mR_T, mc_T_endTask, 2, 2, 47, none, false)
abbrev mc_T_freeAll : ByteArray := prog_1_method_45_code
abbrev my_T_freeAll : MethodName := ⟨mR_T, "freeAll", "(LTaskCores$Task;)Z"⟩
abbrev mY_T_freeAll : mj_Y := (mR_T, mc_T_freeAll, 7, 1, 21, some (.boolean), false)
abbrev mc_T_startTask : ByteArray := prog_1_method_46_code
abbrev my_T_startTask : MethodName := ⟨mR_T, "startTask", "(LTaskCores$Task;)V"⟩
abbrev mY_T_startTask : mj_Y := (mR_T, mc_T_startTask, 2, 1, 21, none, false)
abbrev mc_T_makeReady : ByteArray := prog_1_method_47_code
abbrev my_T_makeReady : MethodName := ⟨mR_T, "makeReady", "(LTaskCores$Task;)V"⟩
abbrev mY_T_makeReady : mj_Y := (mR_T, mc_T_makeReady, 2, 0, 0, none, false)
abbrev mc_T_tellCode : ByteArray := prog_1_method_48_code
abbrev my_T_tellCode : MethodName := ⟨mR_T, "tellCode", "(ILTaskCores$Task;)V"⟩
abbrev mY_T_tellCode : mj_Y := (mR_T, mc_T_tellCode, 3, 1, 25, none, false)
abbrev mc_T_tellIfOffTooLong : ByteArray := prog_1_method_49_code
abbrev my_T_tellIfOffTooLong : MethodName := ⟨mR_T, "tellIfOffTooLong", "()V"⟩
abbrev mY_T_tellIfOffTooLong : mj_Y := (mR_T, mc_T_tellIfOffTooLong, 2, 2, 47, none, false)
abbrev mc_T_quietMicroseconds : ByteArray := prog_1_method_50_code
abbrev my_T_quietMicroseconds : MethodName := ⟨mR_T, "quietMicroseconds", "(I)I"⟩
abbrev mY_T_quietMicroseconds : mj_Y := (mR_T, mc_T_quietMicroseconds, 9, 2, 44, some (.int), false)
abbrev mc_T_passMicroseconds : ByteArray := prog_1_method_51_code
abbrev my_T_passMicroseconds : MethodName := ⟨mR_T, "passMicroseconds", "(I)I"⟩
abbrev mY_T_passMicroseconds : mj_Y := (mR_T, mc_T_passMicroseconds, 10, 2, 47, some (.int), false)
abbrev mc_M_init : ByteArray := prog_12_method_1_code
abbrev my_M_init : MethodName := ⟨mR_M, "<init>", "(I)V"⟩
abbrev mY_M_init : mj_Y := (mR_M, mc_M_init, 2, 1, 21, none, true)
abbrev mc_M_no : ByteArray := prog_12_method_2_code
abbrev my_M_no : MethodName := ⟨mR_M, "no", "(I)Z"⟩
abbrev mY_M_no : mj_Y := (mR_M, mc_M_no, 2, 0, 0, some (.boolean), false)
abbrev mc_M_task : ByteArray := prog_12_method_3_code
abbrev my_M_task : MethodName := ⟨mR_M, "task", "(IIIZ)I"⟩
abbrev mY_M_task : mj_Y := (mR_M, mc_M_task, 5, 0, 0, some (.int), false)
abbrev mc_M_good : ByteArray := prog_12_method_4_code
abbrev my_M_good : MethodName := ⟨mR_M, "good", "(IJ)Z"⟩
abbrev mY_M_good : mj_Y := (mR_M, mc_M_good, 3, 0, 0, some (.boolean), false)
abbrev mc_M_part : ByteArray := prog_12_method_5_code
abbrev my_M_part : MethodName := ⟨mR_M, "part", "(IIJ)I"⟩
abbrev mY_M_part : mj_Y := (mR_M, mc_M_part, 7, 1, 22, some (.int), false)
abbrev mc_M_manner : ByteArray := prog_12_method_6_code
abbrev my_M_manner : MethodName := ⟨mR_M, "manner", "(IZ)I"⟩
abbrev mY_M_manner : mj_Y := (mR_M, mc_M_manner, 3, 1, 21, some (.int), false)
abbrev mc_M_activate : ByteArray := prog_12_method_7_code
abbrev my_M_activate : MethodName := ⟨mR_M, "activate", "(IJ)I"⟩
abbrev mY_M_activate : mj_Y := (mR_M, mc_M_activate, 4, 1, 21, some (.int), false)
abbrev mc_M_interrupt : ByteArray := prog_12_method_8_code
abbrev my_M_interrupt : MethodName := ⟨mR_M, "interrupt", "(IJJ)I"⟩
abbrev mY_M_interrupt : mj_Y := (mR_M, mc_M_interrupt, 6, 0, 0, some (.int), false)
abbrev mc_M_tell : ByteArray := prog_12_method_9_code
abbrev my_M_tell : MethodName := ⟨mR_M, "tell", "(II)V"⟩
abbrev mY_M_tell : mj_Y := (mR_M, mc_M_tell, 3, 0, 0, none, false)
abbrev mc_M_ready : ByteArray := prog_12_method_10_code
abbrev my_M_ready : MethodName := ⟨mR_M, "ready", "(I)V"⟩
abbrev mY_M_ready : mj_Y := (mR_M, mc_M_ready, 2, 0, 0, none, false)
abbrev mc_M_begin : ByteArray := prog_12_method_11_code
abbrev my_M_begin : MethodName := ⟨mR_M, "begin", "(I)V"⟩
abbrev mY_M_begin : mj_Y := (mR_M, mc_M_begin, 2, 1, 22, none, false)
abbrev mc_M_set : ByteArray := prog_12_method_12_code
abbrev my_M_set : MethodName := ⟨mR_M, "set", "(II)Z"⟩
abbrev mY_M_set : mj_Y := (mR_M, mc_M_set, 3, 1, 21, some (.boolean), false)
abbrev mc_M_unlock : ByteArray := prog_12_method_13_code
abbrev my_M_unlock : MethodName := ⟨mR_M, "unlock", "(I)V"⟩
abbrev mY_M_unlock : mj_Y := (mR_M, mc_M_unlock, 4, 0, 0, none, false)
abbrev mc_M_holdsSome : ByteArray := prog_12_method_14_code
abbrev my_M_holdsSome : MethodName := ⟨mR_M, "holdsSome", "(I)Z"⟩
abbrev mY_M_holdsSome : mj_Y := (mR_M, mc_M_holdsSome, 4, 0, 0, some (.boolean), false)
abbrev mc_M_free : ByteArray := prog_12_method_15_code
abbrev my_M_free : MethodName := ⟨mR_M, "free", "(I)V"⟩
abbrev mY_M_free : mj_Y := (mR_M, mc_M_free, 4, 1, 23, none, false)
abbrev mc_M_ends : ByteArray := prog_12_method_16_code
abbrev my_M_ends : MethodName := ⟨mR_M, "ends", "(I)V"⟩
abbrev mY_M_ends : mj_Y := (mR_M, mc_M_ends, 2, 2, 46, none, false)
abbrev mc_M_nextPart : ByteArray := prog_12_method_17_code
abbrev my_M_nextPart : MethodName := ⟨mR_M, "nextPart", "(I)I"⟩
abbrev mY_M_nextPart : mj_Y := (mR_M, mc_M_nextPart, 4, 0, 0, some (.int), false)
abbrev mc_M_act : ByteArray := prog_12_method_18_code
abbrev my_M_act : MethodName := ⟨mR_M, "act", "(IIJ)V"⟩
abbrev mY_M_act : mj_Y := (mR_M, mc_M_act, 8, 4, 89, none, false)
abbrev mc_M_chain : ByteArray := prog_12_method_19_code
abbrev my_M_chain : MethodName := ⟨mR_M, "chain", "(II)V"⟩
abbrev mY_M_chain : mj_Y := (mR_M, mc_M_chain, 3, 3, 67, none, false)
abbrev mc_M_height : ByteArray := prog_12_method_20_code
abbrev my_M_height : MethodName := ⟨mR_M, "height", "(I)I"⟩
abbrev mY_M_height : mj_Y := (mR_M, mc_M_height, 4, 0, 0, some (.int), false)
abbrev mc_M_findCeilings : ByteArray := prog_12_method_21_code
abbrev my_M_findCeilings : MethodName := ⟨mR_M, "findCeilings", "()V"⟩
abbrev mY_M_findCeilings : mj_Y := (mR_M, mc_M_findCeilings, 3, 0, 0, none, false)
abbrev mc_M_runningOf : ByteArray := prog_12_method_22_code
abbrev my_M_runningOf : MethodName := ⟨mR_M, "runningOf", "(I)I"⟩
abbrev mY_M_runningOf : mj_Y := (mR_M, mc_M_runningOf, 4, 0, 0, some (.int), false)
abbrev mc_M_choose : ByteArray := prog_12_method_23_code
abbrev my_M_choose : MethodName := ⟨mR_M, "choose", "(I)I"⟩
abbrev mY_M_choose : mj_Y := (mR_M, mc_M_choose, 7, 1, 23, some (.int), false)
abbrev mc_M_atHand : ByteArray := prog_12_method_24_code
abbrev my_M_atHand : MethodName := ⟨mR_M, "atHand", "()I"⟩
abbrev mY_M_atHand : mj_Y := (mR_M, mc_M_atHand, 4, 0, 0, some (.int), false)
abbrev mc_M_step : ByteArray := prog_12_method_25_code
abbrev my_M_step : MethodName := ⟨mR_M, "step", "(I)Z"⟩
abbrev mY_M_step : mj_Y := (mR_M, mc_M_step, 4, 5, 116, some (.boolean), false)
abbrev mc_M_pass : ByteArray := prog_12_method_26_code
abbrev my_M_pass : MethodName := ⟨mR_M, "pass", "(I)V"⟩
abbrev mY_M_pass : mj_Y := (mR_M, mc_M_pass, 2, 1, 23, none, false)
abbrev mc_M_microsecond : ByteArray := prog_12_method_27_code
abbrev my_M_microsecond : MethodName := ⟨mR_M, "microsecond", "()I"⟩
abbrev mY_M_microsecond : mj_Y := (mR_M, mc_M_microsecond, 8, 6, 139, some (.int), false)
abbrev mc_M_run : ByteArray := prog_12_method_28_code
abbrev my_M_run : MethodName := ⟨mR_M, "run", "(J)I"⟩
abbrev mY_M_run : mj_Y := (mR_M, mc_M_run, 6, 7, 166, some (.int), false)
abbrev mc_M_now : ByteArray := prog_12_method_29_code
abbrev my_M_now : MethodName := ⟨mR_M, "now", "()J"⟩
abbrev mY_M_now : mj_Y := (mR_M, mc_M_now, 1, 0, 0, some (.long), false)
abbrev mc_M_running : ByteArray := prog_12_method_30_code
abbrev my_M_running : MethodName := ⟨mR_M, "running", "(IJ)I"⟩
abbrev mY_M_running : mj_Y := (mR_M, mc_M_running, 4, 0, 0, some (.int), false)
abbrev mc_M_used : ByteArray := prog_12_method_31_code
abbrev my_M_used : MethodName := ⟨mR_M, "used", "(I)J"⟩
abbrev mY_M_used : mj_Y := (mR_M, mc_M_used, 2, 1, 21, some (.long), false)
abbrev mc_M_state : ByteArray := prog_12_method_32_code
abbrev my_M_state : MethodName := ⟨mR_M, "state", "(I)I"⟩
abbrev mY_M_state : mj_Y := (mR_M, mc_M_state, 2, 1, 21, some (.int), false)
abbrev mc_M_event : ByteArray := prog_12_method_33_code
abbrev my_M_event : MethodName := ⟨mR_M, "event", "(II)I"⟩
abbrev mY_M_event : mj_Y := (mR_M, mc_M_event, 3, 2, 43, some (.int), false)
abbrev mc_M_events : ByteArray := prog_12_method_34_code
abbrev my_M_events : MethodName := ⟨mR_M, "events", "(I)I"⟩
abbrev mY_M_events : mj_Y := (mR_M, mc_M_events, 2, 1, 21, some (.int), false)
abbrev mc_M_code : ByteArray := prog_12_method_35_code
abbrev my_M_code : MethodName := ⟨mR_M, "code", "(II)I"⟩
abbrev mY_M_code : mj_Y := (mR_M, mc_M_code, 3, 0, 0, some (.int), false)
abbrev mc_M_isSwitch : ByteArray := prog_12_method_36_code
abbrev my_M_isSwitch : MethodName := ⟨mR_M, "isSwitch", "(II)Z"⟩
abbrev mY_M_isSwitch : mj_Y := (mR_M, mc_M_isSwitch, 3, 0, 0, some (.boolean), false)
abbrev mc_M_order : ByteArray := prog_12_method_37_code
abbrev my_M_order : MethodName := ⟨mR_M, "order", "(II)I"⟩
abbrev mY_M_order : mj_Y := (mR_M, mc_M_order, 7, 1, 22, some (.int), false)
abbrev mc_M_spin : ByteArray := prog_12_method_38_code
abbrev my_M_spin : MethodName := ⟨mR_M, "spin", "(II)I"⟩
abbrev mY_M_spin : mj_Y := (mR_M, mc_M_spin, 5, 0, 0, some (.int), false)
abbrev mc_M_holder : ByteArray := prog_12_method_39_code
abbrev my_M_holder : MethodName := ⟨mR_M, "holder", "(I)I"⟩
abbrev mY_M_holder : mj_Y := (mR_M, mc_M_holder, 2, 0, 0, some (.int), false)
abbrev mc_C_init : ByteArray := prog_2_method_1_code
abbrev my_C_init : MethodName := ⟨mR_C, "<init>", "(I)V"⟩
abbrev mY_C_init : mj_Y := (mR_C, mc_C_init, 2, 2, 42, none, true)
abbrev mc_C_addTask : ByteArray := prog_2_method_2_code
abbrev my_C_addTask : MethodName := ⟨mR_C, "addTask", "(LTaskCores$Task;)V"⟩
abbrev mY_C_addTask : mj_Y := (mR_C, mc_C_addTask, 2, 0, 0, none, false)
abbrev mc_C_noteWho : ByteArray := prog_2_method_3_code
abbrev my_C_noteWho : MethodName := ⟨mR_C, "noteWho", "(II)V"⟩
abbrev mY_C_noteWho : mj_Y := (mR_C, mc_C_noteWho, 3, 1, 25, none, false)
abbrev mc_C_whoAt : ByteArray := prog_2_method_4_code
abbrev my_C_whoAt : MethodName := ⟨mR_C, "whoAt", "(I)I"⟩
abbrev mY_C_whoAt : mj_Y := (mR_C, mc_C_whoAt, 6, 1, 23, some (.int), false)
abbrev mc_I_init : ByteArray := prog_3_method_1_code
abbrev my_I_init : MethodName := ⟨mR_I, "<init>", "(III)V"⟩
abbrev mY_I_init : mj_Y := (mR_I, mc_I_init, 4, 1, 21, none, true)
abbrev mc_U_init : ByteArray := prog_4_method_1_code
abbrev my_U_init : MethodName := ⟨mR_U, "<init>", "()V"⟩
abbrev mY_U_init : mj_Y := (mR_U, mc_U_init, 1, 1, 21, none, true)
abbrev mc_U_add : ByteArray := prog_4_method_2_code
abbrev my_U_add : MethodName := ⟨mR_U, "add", "(LTaskCores$Interrupt;)V"⟩
abbrev mY_U_add : mj_Y := (mR_U, mc_U_add, 4, 0, 0, none, false)
abbrev mc_U_atHand : ByteArray := prog_4_method_3_code
abbrev my_U_atHand : MethodName := ⟨mR_U, "atHand", "(I)LTaskCores$Interrupt;"⟩
abbrev mY_U_atHand : mj_Y := (mR_U, mc_U_atHand, 3, 0, 0, some (.object "TaskCores$Interrupt"), false)
abbrev mc_U_nextChange : ByteArray := prog_4_method_4_code
abbrev my_U_nextChange : MethodName := ⟨mR_U, "nextChange", "(I)I"⟩
abbrev mY_U_nextChange : mj_Y := (mR_U, mc_U_nextChange, 4, 1, 21, some (.int), false)
abbrev mc_U_serve : ByteArray := prog_4_method_5_code
abbrev my_U_serve : MethodName := ⟨mR_U, "serve", "(LTaskCores$Interrupt;I)V"⟩
abbrev mY_U_serve : mj_Y := (mR_U, mc_U_serve, 4, 0, 0, none, false)
abbrev mc_L_init : ByteArray := prog_5_method_1_code
abbrev my_L_init : MethodName := ⟨mR_L, "<init>", "()V"⟩
abbrev mY_L_init : mj_Y := (mR_L, mc_L_init, 1, 1, 21, none, true)
abbrev mc_L_addToQueue : ByteArray := prog_5_method_2_code
abbrev my_L_addToQueue : MethodName := ⟨mR_L, "addToQueue", "(LTaskCores$Task;)V"⟩
abbrev mY_L_addToQueue : mj_Y := (mR_L, mc_L_addToQueue, 4, 0, 0, none, false)
abbrev mc_L_firstInQueueOf : ByteArray := prog_5_method_3_code
abbrev my_L_firstInQueueOf : MethodName := ⟨mR_L, "firstInQueueOf", "(LTaskCores$Core;)LTaskCores$Task;"⟩
abbrev mY_L_firstInQueueOf : mj_Y := (mR_L, mc_L_firstInQueueOf, 3, 0, 0, some (.object "TaskCores$Task"), false)
abbrev mc_L_handOn : ByteArray := prog_5_method_4_code
abbrev my_L_handOn : MethodName := ⟨mR_L, "handOn", "()V"⟩
abbrev mY_L_handOn : mj_Y := (mR_L, mc_L_handOn, 2, 0, 0, none, false)
abbrev mc_G_init : ByteArray := prog_6_method_1_code
abbrev my_G_init : MethodName := ⟨mR_G, "<init>", "(I)V"⟩
abbrev mY_G_init : mj_Y := (mR_G, mc_G_init, 2, 1, 21, none, true)
abbrev mc_G_add : ByteArray := prog_6_method_2_code
abbrev my_G_add : MethodName := ⟨mR_G, "add", "(III)V"⟩
abbrev mY_G_add : mj_Y := (mR_G, mc_G_add, 6, 0, 0, none, false)
abbrev mc_G_answer : ByteArray := prog_6_method_3_code
abbrev my_G_answer : MethodName := ⟨mR_G, "answer", "(II)I"⟩
abbrev mY_G_answer : mj_Y := (mR_G, mc_G_answer, 4, 0, 0, some (.int), false)
abbrev mc_P_init : ByteArray := prog_7_method_1_code
abbrev my_P_init : MethodName := ⟨mR_P, "<init>", "(II)V"⟩
abbrev mY_P_init : mj_Y := (mR_P, mc_P_init, 3, 1, 21, none, true)
abbrev mc_R_init : ByteArray := prog_8_method_1_code
abbrev my_R_init : MethodName := ⟨mR_R, "<init>", "()V"⟩
abbrev mY_R_init : mj_Y := (mR_R, mc_R_init, 1, 1, 21, none, true)
abbrev mc_K_init : ByteArray := prog_9_method_1_code
abbrev my_K_init : MethodName := ⟨mR_K, "<init>", "(IILTaskCores$Core;IZ)V"⟩
abbrev mY_K_init : mj_Y := (mR_K, mc_K_init, 6, 2, 43, none, true)
abbrev mc_K_addPart : ByteArray := prog_9_method_2_code
abbrev my_K_addPart : MethodName := ⟨mR_K, "addPart", "(LTaskCores$Part;)I"⟩
abbrev mY_K_addPart : mj_Y := (mR_K, mc_K_addPart, 5, 0, 0, some (.int), false)
abbrev mc_K_mayBeSet : ByteArray := prog_9_method_3_code
abbrev my_K_mayBeSet : MethodName := ⟨mR_K, "mayBeSet", "()Z"⟩
abbrev mY_K_mayBeSet : mj_Y := (mR_K, mc_K_mayBeSet, 1, 0, 0, some (.boolean), false)
abbrev mc_K_height : ByteArray := prog_9_method_4_code
abbrev my_K_height : MethodName := ⟨mR_K, "height", "()I"⟩
abbrev mY_K_height : mj_Y := (mR_K, mc_K_height, 3, 1, 21, some (.int), false)
abbrev mc_K_comesBefore : ByteArray := prog_9_method_5_code
abbrev my_K_comesBefore : MethodName := ⟨mR_K, "comesBefore", "(LTaskCores$Task;)Z"⟩
abbrev mY_K_comesBefore : mj_Y := (mR_K, mc_K_comesBefore, 4, 2, 43, some (.boolean), false)
abbrev mc_K_leftOfPart : ByteArray := prog_9_method_6_code
abbrev my_K_leftOfPart : MethodName := ⟨mR_K, "leftOfPart", "()I"⟩
abbrev mY_K_leftOfPart : mj_Y := (mR_K, mc_K_leftOfPart, 1, 0, 0, some (.int), false)
abbrev mc_K_spend : ByteArray := prog_9_method_7_code
abbrev my_K_spend : MethodName := ⟨mR_K, "spend", "(I)V"⟩
abbrev mY_K_spend : mj_Y := (mR_K, mc_K_spend, 2, 0, 0, none, false)
abbrev mc_E_init : ByteArray := prog_10_method_1_code
abbrev my_E_init : MethodName := ⟨mR_E, "<init>", "(LTaskCores$Task;I)V"⟩
abbrev mY_E_init : mj_Y := (mR_E, mc_E_init, 3, 1, 21, none, true)
abbrev mc_W_cell : ByteArray := method_2_code
abbrev my_W_cell : MethodName := ⟨mR_W, "cell", "([II)I"⟩
abbrev mY_W_cell : mj_Y := (mR_W, mc_W_cell, 2, 0, 0, some (.int), false)
abbrev mc_W_law : ByteArray := code
abbrev my_W_law : MethodName := ⟨mR_W, "law", "([I)Z"⟩
abbrev mY_W_law : mj_Y := (mR_W, mc_W_law, 4, 8, 191, some (.boolean), false)
theorem kw_T : ∀ w ∈ u_ws mR_T mF_T 13, w ∈ md_Ts := by
  intro w hw
  have hp : u_ws mR_T mF_T 13 = ([150, 152, 154, 156, 158, 160, 162, 164, 166, 168, 170, 172, 174] : List Nat).filterMap (fun i => tables_1[i]?) := by decide +kernel
  have hg : (u_ws mR_T mF_T 13).all goodWord = true := by decide +kernel
  have h1 := List.all_eq_true.mp hg w hw
  rw [hp] at hw
  obtain ⟨i, -, hi⟩ := List.mem_filterMap.mp hw
  exact List.mem_filter.mpr ⟨List.mem_append_right _ (List.mem_of_getElem? hi), h1⟩
theorem kc_T : mj_Cl 0 mR_T mF_T 13 := ⟨by decide, rfl, by decide +kernel, by decide +kernel, fun w hw => kw_T w hw⟩
theorem kw_C : ∀ w ∈ u_ws mR_C mF_C 7, w ∈ md_Ts := by
  intro w hw
  have hp : u_ws mR_C mF_C 7 = ([91, 93, 95, 97, 99, 101, 103] : List Nat).filterMap (fun i => tables_1[i]?) := by decide +kernel
  have hg : (u_ws mR_C mF_C 7).all goodWord = true := by decide +kernel
  have h1 := List.all_eq_true.mp hg w hw
  rw [hp] at hw
  obtain ⟨i, -, hi⟩ := List.mem_filterMap.mp hw
  exact List.mem_filter.mpr ⟨List.mem_append_right _ (List.mem_of_getElem? hi), h1⟩
theorem kc_C : mj_Cl 1 mR_C mF_C 7 := ⟨by decide, rfl, by decide +kernel, by decide +kernel, fun w hw => kw_C w hw⟩
theorem kw_I : ∀ w ∈ u_ws mR_I mF_I 4, w ∈ md_Ts := by
  intro w hw
  have hp : u_ws mR_I mF_I 4 = ([372, 374, 376, 378] : List Nat).filterMap (fun i => tables_1[i]?) := by decide +kernel
  have hg : (u_ws mR_I mF_I 4).all goodWord = true := by decide +kernel
  have h1 := List.all_eq_true.mp hg w hw
  rw [hp] at hw
  obtain ⟨i, -, hi⟩ := List.mem_filterMap.mp hw
  exact List.mem_filter.mpr ⟨List.mem_append_right _ (List.mem_of_getElem? hi), h1⟩
theorem kc_I : mj_Cl 2 mR_I mF_I 4 := ⟨by decide, rfl, by decide +kernel, by decide +kernel, fun w hw => kw_I w hw⟩
theorem kw_U : ∀ w ∈ u_ws mR_U mF_U 4, w ∈ md_Ts := by
  intro w hw
  have hp : u_ws mR_U mF_U 4 = ([40, 42, 44, 46] : List Nat).filterMap (fun i => tables_1[i]?) := by decide +kernel
  have hg : (u_ws mR_U mF_U 4).all goodWord = true := by decide +kernel
  have h1 := List.all_eq_true.mp hg w hw
  rw [hp] at hw
  obtain ⟨i, -, hi⟩ := List.mem_filterMap.mp hw
  exact List.mem_filter.mpr ⟨List.mem_append_right _ (List.mem_of_getElem? hi), h1⟩
theorem kc_U : mj_Cl 3 mR_U mF_U 4 := ⟨by decide, rfl, by decide +kernel, by decide +kernel, fun w hw => kw_U w hw⟩
theorem kw_L : ∀ w ∈ u_ws mR_L mF_L 2, w ∈ md_Ts := by
  intro w hw
  have hp : u_ws mR_L mF_L 2 = ([131, 133] : List Nat).filterMap (fun i => tables_1[i]?) := by decide +kernel
  have hg : (u_ws mR_L mF_L 2).all goodWord = true := by decide +kernel
  have h1 := List.all_eq_true.mp hg w hw
  rw [hp] at hw
  obtain ⟨i, -, hi⟩ := List.mem_filterMap.mp hw
  exact List.mem_filter.mpr ⟨List.mem_append_right _ (List.mem_of_getElem? hi), h1⟩
theorem kc_L : mj_Cl 4 mR_L mF_L 2 := ⟨by decide, rfl, by decide +kernel, by decide +kernel, fun w hw => kw_L w hw⟩
theorem kw_G : ∀ w ∈ u_ws mR_G mF_G 3, w ∈ md_Ts := by
  intro w hw
  have hp : u_ws mR_G mF_G 3 = ([64, 66, 68] : List Nat).filterMap (fun i => tables_1[i]?) := by decide +kernel
  have hg : (u_ws mR_G mF_G 3).all goodWord = true := by decide +kernel
  have h1 := List.all_eq_true.mp hg w hw
  rw [hp] at hw
  obtain ⟨i, -, hi⟩ := List.mem_filterMap.mp hw
  exact List.mem_filter.mpr ⟨List.mem_append_right _ (List.mem_of_getElem? hi), h1⟩
theorem kc_G : mj_Cl 5 mR_G mF_G 3 := ⟨by decide, rfl, by decide +kernel, by decide +kernel, fun w hw => kw_G w hw⟩
theorem kw_P : ∀ w ∈ u_ws mR_P mF_P 3, w ∈ md_Ts := by
  intro w hw
  have hp : u_ws mR_P mF_P 3 = ([205, 207, 209] : List Nat).filterMap (fun i => tables_1[i]?) := by decide +kernel
  have hg : (u_ws mR_P mF_P 3).all goodWord = true := by decide +kernel
  have h1 := List.all_eq_true.mp hg w hw
  rw [hp] at hw
  obtain ⟨i, -, hi⟩ := List.mem_filterMap.mp hw
  exact List.mem_filter.mpr ⟨List.mem_append_right _ (List.mem_of_getElem? hi), h1⟩
theorem kc_P : mj_Cl 6 mR_P mF_P 3 := ⟨by decide, rfl, by decide +kernel, by decide +kernel, fun w hw => kw_P w hw⟩
theorem kw_R : ∀ w ∈ u_ws mR_R mF_R 3, w ∈ md_Ts := by
  intro w hw
  have hp : u_ws mR_R mF_R 3 = ([116, 118, 120] : List Nat).filterMap (fun i => tables_1[i]?) := by decide +kernel
  have hg : (u_ws mR_R mF_R 3).all goodWord = true := by decide +kernel
  have h1 := List.all_eq_true.mp hg w hw
  rw [hp] at hw
  obtain ⟨i, -, hi⟩ := List.mem_filterMap.mp hw
  exact List.mem_filter.mpr ⟨List.mem_append_right _ (List.mem_of_getElem? hi), h1⟩
theorem kc_R : mj_Cl 7 mR_R mF_R 3 := ⟨by decide, rfl, by decide +kernel, by decide +kernel, fun w hw => kw_R w hw⟩
theorem kw_K : ∀ w ∈ u_ws mR_K mF_K 19, w ∈ md_Ts := by
  intro w hw
  have hp : u_ws mR_K mF_K 19 = ([247, 249, 251, 253, 255, 257, 259, 261, 263, 265, 267, 269, 271, 273, 275, 277, 279, 281, 283] : List Nat).filterMap (fun i => tables_1[i]?) := by decide +kernel
  have hg : (u_ws mR_K mF_K 19).all goodWord = true := by decide +kernel
  have h1 := List.all_eq_true.mp hg w hw
  rw [hp] at hw
  obtain ⟨i, -, hi⟩ := List.mem_filterMap.mp hw
  exact List.mem_filter.mpr ⟨List.mem_append_right _ (List.mem_of_getElem? hi), h1⟩
theorem kc_K : mj_Cl 8 mR_K mF_K 19 := ⟨by decide, rfl, by decide +kernel, by decide +kernel, fun w hw => kw_K w hw⟩
theorem kw_E : ∀ w ∈ u_ws mR_E mF_E 3, w ∈ md_Ts := by
  intro w hw
  have hp : u_ws mR_E mF_E 3 = ([341, 343, 345] : List Nat).filterMap (fun i => tables_1[i]?) := by decide +kernel
  have hg : (u_ws mR_E mF_E 3).all goodWord = true := by decide +kernel
  have h1 := List.all_eq_true.mp hg w hw
  rw [hp] at hw
  obtain ⟨i, -, hi⟩ := List.mem_filterMap.mp hw
  exact List.mem_filter.mpr ⟨List.mem_append_right _ (List.mem_of_getElem? hi), h1⟩
theorem kc_E : mj_Cl 9 mR_E mF_E 3 := ⟨by decide, rfl, by decide +kernel, by decide +kernel, fun w hw => kw_E w hw⟩
theorem kw_M : ∀ w ∈ u_ws mR_M mF_M 45, w ∈ md_Ts := by
  intro w hw
  have hp : u_ws mR_M mF_M 45 = ([668, 670, 672, 674, 676, 678, 680, 682, 684, 686, 688, 690, 692, 694, 696, 698, 700, 702, 704, 706, 708, 710, 712, 714, 716, 718, 720, 722, 724, 726, 728, 730, 732, 734, 736, 738, 740, 742, 744, 746, 748, 750, 752, 754, 756] : List Nat).filterMap (fun i => tables_1[i]?) := by decide +kernel
  have hg : (u_ws mR_M mF_M 45).all goodWord = true := by decide +kernel
  have h1 := List.all_eq_true.mp hg w hw
  rw [hp] at hw
  obtain ⟨i, -, hi⟩ := List.mem_filterMap.mp hw
  exact List.mem_filter.mpr ⟨List.mem_append_right _ (List.mem_of_getElem? hi), h1⟩
theorem kc_M : mj_Cl 10 mR_M mF_M 45 := ⟨by decide, rfl, by decide +kernel, by decide +kernel, fun w hw => kw_M w hw⟩
end
