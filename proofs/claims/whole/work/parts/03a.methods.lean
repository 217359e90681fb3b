abbrev mc_T_init : ByteArray := prog_1_method_1_code
abbrev my_T_init : MethodName := ⟨mR_T, "<init>", "(I)V"⟩
abbrev mY_T_init : mj_Y := (mR_T, mc_T_init, 4, 3, 63, none, true)
abbrev mc_T_task : ByteArray := prog_1_method_2_code
abbrev my_T_task : MethodName := ⟨mR_T, "task", "(IIIZ)I"⟩
abbrev mY_T_task : mj_Y := (mR_T, mc_T_task, 8, 3, 68, some (.int), false)
abbrev mc_T_part : ByteArray := prog_1_method_3_code
abbrev my_T_part : MethodName := ⟨mR_T, "part", "(IIJ)I"⟩
abbrev mY_T_part : mj_Y := (mR_T, mc_T_part, 8, 2, 43, some (.int), false)
abbrev mc_T_manner : ByteArray := prog_1_method_4_code
abbrev my_T_manner : MethodName := ⟨mR_T, "manner", "(IZ)I"⟩
abbrev mY_T_manner : mj_Y := (mR_T, mc_T_manner, 4, 1, 21, some (.int), false)
abbrev mc_T_activate : ByteArray := prog_1_method_5_code
abbrev my_T_activate : MethodName := ⟨mR_T, "activate", "(IJ)I"⟩
abbrev mY_T_activate : mj_Y := (mR_T, mc_T_activate, 5, 2, 43, some (.int), false)
abbrev mc_T_interrupt : ByteArray := prog_1_method_6_code
abbrev my_T_interrupt : MethodName := ⟨mR_T, "interrupt", "(IJJ)I"⟩
abbrev mY_T_interrupt : mj_Y := (mR_T, mc_T_interrupt, 6, 2, 44, some (.int), false)
abbrev mc_T_run : ByteArray := prog_1_method_7_code
abbrev my_T_run : MethodName := ⟨mR_T, "run", "(J)I"⟩
abbrev mY_T_run : mj_Y := (mR_T, mc_T_run, 10, 6, 142, some (.int), false)
abbrev mc_T_now : ByteArray := prog_1_method_8_code
abbrev my_T_now : MethodName := ⟨mR_T, "now", "()J"⟩
abbrev mY_T_now : mj_Y := (mR_T, mc_T_now, 1, 0, 0, some (.long), false)
abbrev mc_T_running : ByteArray := prog_1_method_9_code
abbrev my_T_running : MethodName := ⟨mR_T, "running", "(IJ)I"⟩
abbrev mY_T_running : mj_Y := (mR_T, mc_T_running, 5, 2, 48, some (.int), false)
abbrev mc_T_used : ByteArray := prog_1_method_10_code
abbrev my_T_used : MethodName := ⟨mR_T, "used", "(I)J"⟩
abbrev mY_T_used : mj_Y := (mR_T, mc_T_used, 3, 1, 21, some (.long), false)
abbrev mc_T_state : ByteArray := prog_1_method_11_code
abbrev my_T_state : MethodName := ⟨mR_T, "state", "(I)I"⟩
abbrev mY_T_state : mj_Y := (mR_T, mc_T_state, 3, 1, 21, some (.int), false)
abbrev mc_T_event : ByteArray := prog_1_method_12_code
abbrev my_T_event : MethodName := ⟨mR_T, "event", "(II)I"⟩
abbrev mY_T_event : mj_Y := (mR_T, mc_T_event, 4, 2, 43, some (.int), false)
abbrev mc_T_events : ByteArray := prog_1_method_13_code
abbrev my_T_events : MethodName := ⟨mR_T, "events", "(I)I"⟩
abbrev mY_T_events : mj_Y := (mR_T, mc_T_events, 3, 1, 21, some (.int), false)
abbrev mc_T_code : ByteArray := prog_1_method_14_code
abbrev my_T_code : MethodName := ⟨mR_T, "code", "(II)I"⟩
abbrev mY_T_code : mj_Y := (mR_T, mc_T_code, 3, 1, 23, some (.int), false)
abbrev mc_T_order : ByteArray := prog_1_method_15_code
abbrev my_T_order : MethodName := ⟨mR_T, "order", "(II)I"⟩
abbrev mY_T_order : mj_Y := (mR_T, mc_T_order, 3, 1, 23, some (.int), false)
abbrev mc_T_spin : ByteArray := prog_1_method_16_code
abbrev my_T_spin : MethodName := ⟨mR_T, "spin", "(II)I"⟩
abbrev mY_T_spin : mj_Y := (mR_T, mc_T_spin, 6, 1, 22, some (.int), false)
abbrev mc_T_holder : ByteArray := prog_1_method_17_code
abbrev my_T_holder : MethodName := ⟨mR_T, "holder", "(I)I"⟩
abbrev mY_T_holder : mj_Y := (mR_T, mc_T_holder, 3, 1, 21, some (.int), false)
abbrev mc_T_coreOf : ByteArray := prog_1_method_18_code
abbrev my_T_coreOf : MethodName := ⟨mR_T, "coreOf", "(I)LTaskCores$Core;"⟩
abbrev mY_T_coreOf : mj_Y := (mR_T, mc_T_coreOf, 2, 0, 0, some (.object "TaskCores$Core"), false)
abbrev mc_T_taskOf : ByteArray := prog_1_method_19_code
abbrev my_T_taskOf : MethodName := ⟨mR_T, "taskOf", "(I)LTaskCores$Task;"⟩
abbrev mY_T_taskOf : mj_Y := (mR_T, mc_T_taskOf, 2, 0, 0, some (.object "TaskCores$Task"), false)
abbrev mc_T_resourceOf : ByteArray := prog_1_method_20_code
abbrev my_T_resourceOf : MethodName := ⟨mR_T, "resourceOf", "(I)LTaskCores$Resource;"⟩
abbrev mY_T_resourceOf : mj_Y := (mR_T, mc_T_resourceOf, 2, 0, 0, some (.object "TaskCores$Resource"), false)
abbrev mc_T_lockOf : ByteArray := prog_1_method_21_code
abbrev my_T_lockOf : MethodName := ⟨mR_T, "lockOf", "(I)LTaskCores$Lock;"⟩
abbrev mY_T_lockOf : mj_Y := (mR_T, mc_T_lockOf, 2, 0, 0, some (.object "TaskCores$Lock"), false)
abbrev mc_T_isToCome : ByteArray := prog_1_method_22_code
abbrev my_T_isToCome : MethodName := ⟨mR_T, "isToCome", "(J)Z"⟩
abbrev mY_T_isToCome : mj_Y := (mR_T, mc_T_isToCome, 3, 0, 0, some (.boolean), false)
abbrev mc_T_mayBePart : ByteArray := prog_1_method_23_code
abbrev my_T_mayBePart : MethodName := ⟨mR_T, "mayBePart", "(IJ)Z"⟩
abbrev mY_T_mayBePart : mj_Y := (mR_T, mc_T_mayBePart, 3, 0, 0, some (.boolean), false)
abbrev mc_T_addTelling : ByteArray := prog_1_method_24_code
abbrev my_T_addTelling : MethodName := ⟨mR_T, "addTelling", "(LTaskCores$Telling;)V"⟩
abbrev mY_T_addTelling : mj_Y := (mR_T, mc_T_addTelling, 4, 0, 0, none, false)
abbrev mc_T_activateThoseTold : ByteArray := prog_1_method_25_code
abbrev my_T_activateThoseTold : MethodName := ⟨mR_T, "activateThoseTold", "()V"⟩
abbrev mY_T_activateThoseTold : mj_Y := (mR_T, mc_T_activateThoseTold, 2, 3, 68, none, false)
abbrev mc_T_takeSteps : ByteArray := prog_1_method_26_code
abbrev my_T_takeSteps : MethodName := ⟨mR_T, "takeSteps", "()V"⟩
abbrev mY_T_takeSteps : mj_Y := (mR_T, mc_T_takeSteps, 9, 5, 114, none, false)
abbrev mc_T_taskWithStep : ByteArray := prog_1_method_27_code
abbrev my_T_taskWithStep : MethodName := ⟨mR_T, "taskWithStep", "(LTaskCores$Core;)LTaskCores$Task;"⟩
abbrev mY_T_taskWithStep : mj_Y := (mR_T, mc_T_taskWithStep, 5, 4, 90, some (.object "TaskCores$Task"), false)
abbrev mc_T_choose : ByteArray := prog_1_method_28_code
abbrev my_T_choose : MethodName := ⟨mR_T, "choose", "(LTaskCores$Core;)V"⟩
abbrev mY_T_choose : mj_Y := (mR_T, mc_T_choose, 5, 3, 66, none, false)
abbrev mc_T_startsToSpin : ByteArray := prog_1_method_29_code
abbrev my_T_startsToSpin : MethodName := ⟨mR_T, "startsToSpin", "(LTaskCores$Task;LTaskCores$Lock;)Z"⟩
abbrev mY_T_startsToSpin : mj_Y := (mR_T, mc_T_startsToSpin, 2, 1, 23, some (.boolean), false)
abbrev mc_T_doNextPart : ByteArray := prog_1_method_30_code
abbrev my_T_doNextPart : MethodName := ⟨mR_T, "doNextPart", "(LTaskCores$Task;)V"⟩
abbrev mY_T_doNextPart : mj_Y := (mR_T, mc_T_doNextPart, 4, 4, 91, none, false)
abbrev mc_T_activateByTask : ByteArray := prog_1_method_31_code
abbrev my_T_activateByTask : MethodName := ⟨mR_T, "activateByTask", "(LTaskCores$Task;I)V"⟩
abbrev mY_T_activateByTask : mj_Y := (mR_T, mc_T_activateByTask, 4, 3, 68, none, false)
abbrev mc_T_chain : ByteArray := prog_1_method_32_code
abbrev my_T_chain : MethodName := ⟨mR_T, "chain", "(LTaskCores$Task;I)V"⟩
abbrev mY_T_chain : mj_Y := (mR_T, mc_T_chain, 4, 3, 68, none, false)
abbrev mc_T_waitFor : ByteArray := prog_1_method_33_code
abbrev my_T_waitFor : MethodName := ⟨mR_T, "waitFor", "(LTaskCores$Task;I)V"⟩
abbrev mY_T_waitFor : mj_Y := (mR_T, mc_T_waitFor, 3, 2, 47, none, false)
abbrev mc_T_setByTask : ByteArray := prog_1_method_34_code
abbrev my_T_setByTask : MethodName := ⟨mR_T, "setByTask", "(LTaskCores$Task;II)V"⟩
abbrev mY_T_setByTask : mj_Y := (mR_T, mc_T_setByTask, 5, 2, 47, none, false)
abbrev mc_T_clearEvents : ByteArray := prog_1_method_35_code
abbrev my_T_clearEvents : MethodName := ⟨mR_T, "clearEvents", "(LTaskCores$Task;I)V"⟩
abbrev mY_T_clearEvents : mj_Y := (mR_T, mc_T_clearEvents, 3, 2, 47, none, false)
abbrev mc_T_getResource : ByteArray := prog_1_method_36_code
abbrev my_T_getResource : MethodName := ⟨mR_T, "getResource", "(LTaskCores$Task;LTaskCores$Resource;)V"⟩
abbrev mY_T_getResource : mj_Y := (mR_T, mc_T_getResource, 3, 2, 47, none, false)
abbrev mc_T_freeResource : ByteArray := prog_1_method_37_code
abbrev my_T_freeResource : MethodName := ⟨mR_T, "freeResource", "(LTaskCores$Task;LTaskCores$Resource;)V"⟩
abbrev mY_T_freeResource : mj_Y := (mR_T, mc_T_freeResource, 3, 2, 47, none, false)
abbrev mc_T_takeLock : ByteArray := prog_1_method_38_code
abbrev my_T_takeLock : MethodName := ⟨mR_T, "takeLock", "(LTaskCores$Task;LTaskCores$Lock;)V"⟩
abbrev mY_T_takeLock : mj_Y := (mR_T, mc_T_takeLock, 3, 2, 47, none, false)
abbrev mc_T_unlock : ByteArray := prog_1_method_39_code
abbrev my_T_unlock : MethodName := ⟨mR_T, "unlock", "(LTaskCores$Task;LTaskCores$Lock;)V"⟩
abbrev mY_T_unlock : mj_Y := (mR_T, mc_T_unlock, 3, 2, 47, none, false)
abbrev mc_T_putOff : ByteArray := prog_1_method_40_code
abbrev my_T_putOff : MethodName := ⟨mR_T, "putOff", "(LTaskCores$Task;I)V"⟩
abbrev mY_T_putOff : mj_Y := (mR_T, mc_T_putOff, 3, 2, 47, none, false)
abbrev mc_T_putOn : ByteArray := prog_1_method_41_code
abbrev my_T_putOn : MethodName := ⟨mR_T, "putOn", "(LTaskCores$Task;)V"⟩
abbrev mY_T_putOn : mj_Y := (mR_T, mc_T_putOn, 2, 2, 47, none, false)
abbrev mc_T_setEvents : ByteArray := prog_1_method_42_code
abbrev my_T_setEvents : MethodName := ⟨mR_T, "setEvents", "(LTaskCores$Task;I)V"⟩
abbrev mY_T_setEvents : mj_Y := (mR_T, mc_T_setEvents, 3, 1, 21, none, false)
abbrev mc_T_activateTask : ByteArray := prog_1_method_43_code
abbrev my_T_activateTask : MethodName := ⟨mR_T, "activateTask", "(LTaskCores$Task;)V"⟩
abbrev mY_T_activateTask : mj_Y := (mR_T, mc_T_activateTask, 2, 2, 47, none, false)
abbrev mc_T_endTask : ByteArray := prog_1_method_44_code
abbrev my_T_endTask : MethodName := ⟨mR_T, "endTask", "(LTaskCores$Task;)V"⟩
abbrev mY_T_endTask : mj_Y := (mR_T, mc_T_endTask, 2, 2, 47, none, false)
abbrev mc_T_freeAll : ByteArray := prog_1_method_45_code
abbrev my_T_freeAll : MethodName := ⟨mR_T, "freeAll", "(LTaskCores$Task;)Z"⟩
abbrev mY_T_freeAll : mj_Y := (mR_T, mc_T_freeAll, 7, 1, 21, some (.boolean), false)
abbrev mc_T_startTask : ByteArray := prog_1_method_46_code
abbrev my_T_startTask : MethodName := ⟨mR_T, "startTask", "(LTaskCores$Task;)V"⟩
abbrev mY_T_startTask : mj_Y := (mR_T, mc_T_startTask, 2, 1, 21, none, false)
abbrev mc_T_makeReady : ByteArray := prog_1_method_47_code
abbrev my_T_makeReady : MethodName := ⟨mR_T, "makeReady", "(LTaskCores$Task;)V"⟩
abbrev mY_T_makeReady : mj_Y := (mR_T, mc_T_makeReady, 2, 0, 0, none, false)
abbrev mc_T_tellCode : ByteArray := prog_1_method_48_code
abbrev my_T_tellCode : MethodName := ⟨mR_T, "tellCode", "(ILTaskCores$Task;)V"⟩
abbrev mY_T_tellCode : mj_Y := (mR_T, mc_T_tellCode, 3, 1, 25, none, false)
abbrev mc_T_tellIfOffTooLong : ByteArray := prog_1_method_49_code
abbrev my_T_tellIfOffTooLong : MethodName := ⟨mR_T, "tellIfOffTooLong", "()V"⟩
abbrev mY_T_tellIfOffTooLong : mj_Y := (mR_T, mc_T_tellIfOffTooLong, 2, 2, 47, none, false)
abbrev mc_T_quietMicroseconds : ByteArray := prog_1_method_50_code
abbrev my_T_quietMicroseconds : MethodName := ⟨mR_T, "quietMicroseconds", "(I)I"⟩
abbrev mY_T_quietMicroseconds : mj_Y := (mR_T, mc_T_quietMicroseconds, 9, 2, 44, some (.int), false)
abbrev mc_T_passMicroseconds : ByteArray := prog_1_method_51_code
abbrev my_T_passMicroseconds : MethodName := ⟨mR_T, "passMicroseconds", "(I)I"⟩
abbrev mY_T_passMicroseconds : mj_Y := (mR_T, mc_T_passMicroseconds, 10, 2, 47, some (.int), false)
abbrev mc_M_init : ByteArray := prog_12_method_1_code
abbrev my_M_init : MethodName := ⟨mR_M, "<init>", "(I)V"⟩
abbrev mY_M_init : mj_Y := (mR_M, mc_M_init, 2, 1, 21, none, true)
abbrev mc_M_no : ByteArray := prog_12_method_2_code
abbrev my_M_no : MethodName := ⟨mR_M, "no", "(I)Z"⟩
abbrev mY_M_no : mj_Y := (mR_M, mc_M_no, 2, 0, 0, some (.boolean), false)
abbrev mc_M_task : ByteArray := prog_12_method_3_code
abbrev my_M_task : MethodName := ⟨mR_M, "task", "(IIIZ)I"⟩
abbrev mY_M_task : mj_Y := (mR_M, mc_M_task, 5, 0, 0, some (.int), false)
abbrev mc_M_good : ByteArray := prog_12_method_4_code
abbrev my_M_good : MethodName := ⟨mR_M, "good", "(IJ)Z"⟩
abbrev mY_M_good : mj_Y := (mR_M, mc_M_good, 3, 0, 0, some (.boolean), false)
abbrev mc_M_part : ByteArray := prog_12_method_5_code
abbrev my_M_part : MethodName := ⟨mR_M, "part", "(IIJ)I"⟩
abbrev mY_M_part : mj_Y := (mR_M, mc_M_part, 7, 1, 22, some (.int), false)
abbrev mc_M_manner : ByteArray := prog_12_method_6_code
abbrev my_M_manner : MethodName := ⟨mR_M, "manner", "(IZ)I"⟩
abbrev mY_M_manner : mj_Y := (mR_M, mc_M_manner, 3, 1, 21, some (.int), false)
abbrev mc_M_activate : ByteArray := prog_12_method_7_code
abbrev my_M_activate : MethodName := ⟨mR_M, "activate", "(IJ)I"⟩
abbrev mY_M_activate : mj_Y := (mR_M, mc_M_activate, 4, 1, 21, some (.int), false)
abbrev mc_M_interrupt : ByteArray := prog_12_method_8_code
abbrev my_M_interrupt : MethodName := ⟨mR_M, "interrupt", "(IJJ)I"⟩
abbrev mY_M_interrupt : mj_Y := (mR_M, mc_M_interrupt, 6, 0, 0, some (.int), false)
abbrev mc_M_tell : ByteArray := prog_12_method_9_code
abbrev my_M_tell : MethodName := ⟨mR_M, "tell", "(II)V"⟩
abbrev mY_M_tell : mj_Y := (mR_M, mc_M_tell, 3, 0, 0, none, false)
abbrev mc_M_ready : ByteArray := prog_12_method_10_code
abbrev my_M_ready : MethodName := ⟨mR_M, "ready", "(I)V"⟩
abbrev mY_M_ready : mj_Y := (mR_M, mc_M_ready, 2, 0, 0, none, false)
abbrev mc_M_begin : ByteArray := prog_12_method_11_code
abbrev my_M_begin : MethodName := ⟨mR_M, "begin", "(I)V"⟩
abbrev mY_M_begin : mj_Y := (mR_M, mc_M_begin, 2, 1, 22, none, false)
abbrev mc_M_set : ByteArray := prog_12_method_12_code
abbrev my_M_set : MethodName := ⟨mR_M, "set", "(II)Z"⟩
abbrev mY_M_set : mj_Y := (mR_M, mc_M_set, 3, 1, 21, some (.boolean), false)
abbrev mc_M_unlock : ByteArray := prog_12_method_13_code
abbrev my_M_unlock : MethodName := ⟨mR_M, "unlock", "(I)V"⟩
abbrev mY_M_unlock : mj_Y := (mR_M, mc_M_unlock, 4, 0, 0, none, false)
abbrev mc_M_holdsSome : ByteArray := prog_12_method_14_code
abbrev my_M_holdsSome : MethodName := ⟨mR_M, "holdsSome", "(I)Z"⟩
abbrev mY_M_holdsSome : mj_Y := (mR_M, mc_M_holdsSome, 4, 0, 0, some (.boolean), false)
abbrev mc_M_free : ByteArray := prog_12_method_15_code
abbrev my_M_free : MethodName := ⟨mR_M, "free", "(I)V"⟩
abbrev mY_M_free : mj_Y := (mR_M, mc_M_free, 4, 1, 23, none, false)
abbrev mc_M_ends : ByteArray := prog_12_method_16_code
abbrev my_M_ends : MethodName := ⟨mR_M, "ends", "(I)V"⟩
abbrev mY_M_ends : mj_Y := (mR_M, mc_M_ends, 2, 2, 46, none, false)
abbrev mc_M_nextPart : ByteArray := prog_12_method_17_code
abbrev my_M_nextPart : MethodName := ⟨mR_M, "nextPart", "(I)I"⟩
abbrev mY_M_nextPart : mj_Y := (mR_M, mc_M_nextPart, 4, 0, 0, some (.int), false)
abbrev mc_M_act : ByteArray := prog_12_method_18_code
abbrev my_M_act : MethodName := ⟨mR_M, "act", "(IIJ)V"⟩
abbrev mY_M_act : mj_Y := (mR_M, mc_M_act, 8, 4, 89, none, false)
abbrev mc_M_chain : ByteArray := prog_12_method_19_code
abbrev my_M_chain : MethodName := ⟨mR_M, "chain", "(II)V"⟩
abbrev mY_M_chain : mj_Y := (mR_M, mc_M_chain, 3, 3, 67, none, false)
abbrev mc_M_height : ByteArray := prog_12_method_20_code
abbrev my_M_height : MethodName := ⟨mR_M, "height", "(I)I"⟩
abbrev mY_M_height : mj_Y := (mR_M, mc_M_height, 4, 0, 0, some (.int), false)
abbrev mc_M_findCeilings : ByteArray := prog_12_method_21_code
abbrev my_M_findCeilings : MethodName := ⟨mR_M, "findCeilings", "()V"⟩
abbrev mY_M_findCeilings : mj_Y := (mR_M, mc_M_findCeilings, 3, 0, 0, none, false)
abbrev mc_M_runningOf : ByteArray := prog_12_method_22_code
abbrev my_M_runningOf : MethodName := ⟨mR_M, "runningOf", "(I)I"⟩
abbrev mY_M_runningOf : mj_Y := (mR_M, mc_M_runningOf, 4, 0, 0, some (.int), false)
abbrev mc_M_choose : ByteArray := prog_12_method_23_code
abbrev my_M_choose : MethodName := ⟨mR_M, "choose", "(I)I"⟩
abbrev mY_M_choose : mj_Y := (mR_M, mc_M_choose, 7, 1, 23, some (.int), false)
abbrev mc_M_atHand : ByteArray := prog_12_method_24_code
abbrev my_M_atHand : MethodName := ⟨mR_M, "atHand", "()I"⟩
abbrev mY_M_atHand : mj_Y := (mR_M, mc_M_atHand, 4, 0, 0, some (.int), false)
abbrev mc_M_step : ByteArray := prog_12_method_25_code
abbrev my_M_step : MethodName := ⟨mR_M, "step", "(I)Z"⟩
abbrev mY_M_step : mj_Y := (mR_M, mc_M_step, 4, 5, 116, some (.boolean), false)
abbrev mc_M_pass : ByteArray := prog_12_method_26_code
abbrev my_M_pass : MethodName := ⟨mR_M, "pass", "(I)V"⟩
abbrev mY_M_pass : mj_Y := (mR_M, mc_M_pass, 2, 1, 23, none, false)
abbrev mc_M_microsecond : ByteArray := prog_12_method_27_code
abbrev my_M_microsecond : MethodName := ⟨mR_M, "microsecond", "()I"⟩
abbrev mY_M_microsecond : mj_Y := (mR_M, mc_M_microsecond, 8, 6, 139, some (.int), false)
abbrev mc_M_run : ByteArray := prog_12_method_28_code
abbrev my_M_run : MethodName := ⟨mR_M, "run", "(J)I"⟩
abbrev mY_M_run : mj_Y := (mR_M, mc_M_run, 6, 7, 166, some (.int), false)
abbrev mc_M_now : ByteArray := prog_12_method_29_code
abbrev my_M_now : MethodName := ⟨mR_M, "now", "()J"⟩
abbrev mY_M_now : mj_Y := (mR_M, mc_M_now, 1, 0, 0, some (.long), false)
abbrev mc_M_running : ByteArray := prog_12_method_30_code
abbrev my_M_running : MethodName := ⟨mR_M, "running", "(IJ)I"⟩
abbrev mY_M_running : mj_Y := (mR_M, mc_M_running, 4, 0, 0, some (.int), false)
abbrev mc_M_used : ByteArray := prog_12_method_31_code
abbrev my_M_used : MethodName := ⟨mR_M, "used", "(I)J"⟩
abbrev mY_M_used : mj_Y := (mR_M, mc_M_used, 2, 1, 21, some (.long), false)
abbrev mc_M_state : ByteArray := prog_12_method_32_code
abbrev my_M_state : MethodName := ⟨mR_M, "state", "(I)I"⟩
abbrev mY_M_state : mj_Y := (mR_M, mc_M_state, 2, 1, 21, some (.int), false)
abbrev mc_M_event : ByteArray := prog_12_method_33_code
abbrev my_M_event : MethodName := ⟨mR_M, "event", "(II)I"⟩
abbrev mY_M_event : mj_Y := (mR_M, mc_M_event, 3, 2, 43, some (.int), false)
abbrev mc_M_events : ByteArray := prog_12_method_34_code
abbrev my_M_events : MethodName := ⟨mR_M, "events", "(I)I"⟩
abbrev mY_M_events : mj_Y := (mR_M, mc_M_events, 2, 1, 21, some (.int), false)
abbrev mc_M_code : ByteArray := prog_12_method_35_code
abbrev my_M_code : MethodName := ⟨mR_M, "code", "(II)I"⟩
abbrev mY_M_code : mj_Y := (mR_M, mc_M_code, 3, 0, 0, some (.int), false)
abbrev mc_M_isSwitch : ByteArray := prog_12_method_36_code
abbrev my_M_isSwitch : MethodName := ⟨mR_M, "isSwitch", "(II)Z"⟩
abbrev mY_M_isSwitch : mj_Y := (mR_M, mc_M_isSwitch, 3, 0, 0, some (.boolean), false)
abbrev mc_M_order : ByteArray := prog_12_method_37_code
abbrev my_M_order : MethodName := ⟨mR_M, "order", "(II)I"⟩
abbrev mY_M_order : mj_Y := (mR_M, mc_M_order, 7, 1, 22, some (.int), false)
abbrev mc_M_spin : ByteArray := prog_12_method_38_code
abbrev my_M_spin : MethodName := ⟨mR_M, "spin", "(II)I"⟩
abbrev mY_M_spin : mj_Y := (mR_M, mc_M_spin, 5, 0, 0, some (.int), false)
abbrev mc_M_holder : ByteArray := prog_12_method_39_code
abbrev my_M_holder : MethodName := ⟨mR_M, "holder", "(I)I"⟩
abbrev mY_M_holder : mj_Y := (mR_M, mc_M_holder, 2, 0, 0, some (.int), false)
abbrev mc_C_init : ByteArray := prog_2_method_1_code
abbrev my_C_init : MethodName := ⟨mR_C, "<init>", "(I)V"⟩
abbrev mY_C_init : mj_Y := (mR_C, mc_C_init, 2, 2, 42, none, true)
abbrev mc_C_addTask : ByteArray := prog_2_method_2_code
abbrev my_C_addTask : MethodName := ⟨mR_C, "addTask", "(LTaskCores$Task;)V"⟩
abbrev mY_C_addTask : mj_Y := (mR_C, mc_C_addTask, 2, 0, 0, none, false)
abbrev mc_C_noteWho : ByteArray := prog_2_method_3_code
abbrev my_C_noteWho : MethodName := ⟨mR_C, "noteWho", "(II)V"⟩
abbrev mY_C_noteWho : mj_Y := (mR_C, mc_C_noteWho, 3, 1, 25, none, false)
abbrev mc_C_whoAt : ByteArray := prog_2_method_4_code
abbrev my_C_whoAt : MethodName := ⟨mR_C, "whoAt", "(I)I"⟩
abbrev mY_C_whoAt : mj_Y := (mR_C, mc_C_whoAt, 6, 1, 23, some (.int), false)
abbrev mc_I_init : ByteArray := prog_3_method_1_code
abbrev my_I_init : MethodName := ⟨mR_I, "<init>", "(III)V"⟩
abbrev mY_I_init : mj_Y := (mR_I, mc_I_init, 4, 1, 21, none, true)
abbrev mc_U_init : ByteArray := prog_4_method_1_code
abbrev my_U_init : MethodName := ⟨mR_U, "<init>", "()V"⟩
abbrev mY_U_init : mj_Y := (mR_U, mc_U_init, 1, 1, 21, none, true)
abbrev mc_U_add : ByteArray := prog_4_method_2_code
abbrev my_U_add : MethodName := ⟨mR_U, "add", "(LTaskCores$Interrupt;)V"⟩
abbrev mY_U_add : mj_Y := (mR_U, mc_U_add, 4, 0, 0, none, false)
abbrev mc_U_atHand : ByteArray := prog_4_method_3_code
abbrev my_U_atHand : MethodName := ⟨mR_U, "atHand", "(I)LTaskCores$Interrupt;"⟩
abbrev mY_U_atHand : mj_Y := (mR_U, mc_U_atHand, 3, 0, 0, some (.object "TaskCores$Interrupt"), false)
abbrev mc_U_nextChange : ByteArray := prog_4_method_4_code
abbrev my_U_nextChange : MethodName := ⟨mR_U, "nextChange", "(I)I"⟩
abbrev mY_U_nextChange : mj_Y := (mR_U, mc_U_nextChange, 4, 1, 21, some (.int), false)
abbrev mc_U_serve : ByteArray := prog_4_method_5_code
abbrev my_U_serve : MethodName := ⟨mR_U, "serve", "(LTaskCores$Interrupt;I)V"⟩
abbrev mY_U_serve : mj_Y := (mR_U, mc_U_serve, 4, 0, 0, none, false)
abbrev mc_L_init : ByteArray := prog_5_method_1_code
abbrev my_L_init : MethodName := ⟨mR_L, "<init>", "()V"⟩
abbrev mY_L_init : mj_Y := (mR_L, mc_L_init, 1, 1, 21, none, true)
abbrev mc_L_addToQueue : ByteArray := prog_5_method_2_code
abbrev my_L_addToQueue : MethodName := ⟨mR_L, "addToQueue", "(LTaskCores$Task;)V"⟩
abbrev mY_L_addToQueue : mj_Y := (mR_L, mc_L_addToQueue, 4, 0, 0, none, false)
abbrev mc_L_firstInQueueOf : ByteArray := prog_5_method_3_code
abbrev my_L_firstInQueueOf : MethodName := ⟨mR_L, "firstInQueueOf", "(LTaskCores$Core;)LTaskCores$Task;"⟩
abbrev mY_L_firstInQueueOf : mj_Y := (mR_L, mc_L_firstInQueueOf, 3, 0, 0, some (.object "TaskCores$Task"), false)
abbrev mc_L_handOn : ByteArray := prog_5_method_4_code
abbrev my_L_handOn : MethodName := ⟨mR_L, "handOn", "()V"⟩
abbrev mY_L_handOn : mj_Y := (mR_L, mc_L_handOn, 2, 0, 0, none, false)
abbrev mc_G_init : ByteArray := prog_6_method_1_code
abbrev my_G_init : MethodName := ⟨mR_G, "<init>", "(I)V"⟩
abbrev mY_G_init : mj_Y := (mR_G, mc_G_init, 2, 1, 21, none, true)
abbrev mc_G_add : ByteArray := prog_6_method_2_code
abbrev my_G_add : MethodName := ⟨mR_G, "add", "(III)V"⟩
abbrev mY_G_add : mj_Y := (mR_G, mc_G_add, 6, 0, 0, none, false)
abbrev mc_G_answer : ByteArray := prog_6_method_3_code
abbrev my_G_answer : MethodName := ⟨mR_G, "answer", "(II)I"⟩
abbrev mY_G_answer : mj_Y := (mR_G, mc_G_answer, 4, 0, 0, some (.int), false)
abbrev mc_P_init : ByteArray := prog_7_method_1_code
abbrev my_P_init : MethodName := ⟨mR_P, "<init>", "(II)V"⟩
abbrev mY_P_init : mj_Y := (mR_P, mc_P_init, 3, 1, 21, none, true)
abbrev mc_R_init : ByteArray := prog_8_method_1_code
abbrev my_R_init : MethodName := ⟨mR_R, "<init>", "()V"⟩
abbrev mY_R_init : mj_Y := (mR_R, mc_R_init, 1, 1, 21, none, true)
abbrev mc_K_init : ByteArray := prog_9_method_1_code
abbrev my_K_init : MethodName := ⟨mR_K, "<init>", "(IILTaskCores$Core;IZ)V"⟩
abbrev mY_K_init : mj_Y := (mR_K, mc_K_init, 6, 2, 43, none, true)
abbrev mc_K_addPart : ByteArray := prog_9_method_2_code
abbrev my_K_addPart : MethodName := ⟨mR_K, "addPart", "(LTaskCores$Part;)I"⟩
abbrev mY_K_addPart : mj_Y := (mR_K, mc_K_addPart, 5, 0, 0, some (.int), false)
abbrev mc_K_mayBeSet : ByteArray := prog_9_method_3_code
abbrev my_K_mayBeSet : MethodName := ⟨mR_K, "mayBeSet", "()Z"⟩
abbrev mY_K_mayBeSet : mj_Y := (mR_K, mc_K_mayBeSet, 1, 0, 0, some (.boolean), false)
abbrev mc_K_height : ByteArray := prog_9_method_4_code
abbrev my_K_height : MethodName := ⟨mR_K, "height", "()I"⟩
abbrev mY_K_height : mj_Y := (mR_K, mc_K_height, 3, 1, 21, some (.int), false)
abbrev mc_K_comesBefore : ByteArray := prog_9_method_5_code
abbrev my_K_comesBefore : MethodName := ⟨mR_K, "comesBefore", "(LTaskCores$Task;)Z"⟩
abbrev mY_K_comesBefore : mj_Y := (mR_K, mc_K_comesBefore, 4, 2, 43, some (.boolean), false)
abbrev mc_K_leftOfPart : ByteArray := prog_9_method_6_code
abbrev my_K_leftOfPart : MethodName := ⟨mR_K, "leftOfPart", "()I"⟩
abbrev mY_K_leftOfPart : mj_Y := (mR_K, mc_K_leftOfPart, 1, 0, 0, some (.int), false)
abbrev mc_K_spend : ByteArray := prog_9_method_7_code
abbrev my_K_spend : MethodName := ⟨mR_K, "spend", "(I)V"⟩
abbrev mY_K_spend : mj_Y := (mR_K, mc_K_spend, 2, 0, 0, none, false)
abbrev mc_E_init : ByteArray := prog_10_method_1_code
abbrev my_E_init : MethodName := ⟨mR_E, "<init>", "(LTaskCores$Task;I)V"⟩
abbrev mY_E_init : mj_Y := (mR_E, mc_E_init, 3, 1, 21, none, true)
abbrev mc_W_cell : ByteArray := method_2_code
abbrev my_W_cell : MethodName := ⟨mR_W, "cell", "([II)I"⟩
abbrev mY_W_cell : mj_Y := (mR_W, mc_W_cell, 2, 0, 0, some (.int), false)
abbrev mc_W_law : ByteArray := code
abbrev my_W_law : MethodName := ⟨mR_W, "law", "([I)Z"⟩
abbrev mY_W_law : mj_Y := (mR_W, mc_W_law, 4, 8, 191, some (.boolean), false)
theorem kw_T : ∀ w ∈ u_ws mR_T mF_T 13, w ∈ md_Ts := by
  intro w hw
  have hp : u_ws mR_T mF_T 13 = ([150, 152, 154, 156, 158, 160, 162, 164, 166, 168, 170, 172, 174] : List Nat).filterMap (fun i => tables_1[i]?) := by decide +kernel
  have hg : (u_ws mR_T mF_T 13).all goodWord = true := by decide +kernel
  have h1 := List.all_eq_true.mp hg w hw
  rw [hp] at hw
  obtain ⟨i, -, hi⟩ := List.mem_filterMap.mp hw
  exact List.mem_filter.mpr ⟨List.mem_append_right _ (List.mem_of_getElem? hi), h1⟩
theorem kdv_T : ∀ k, k < 13 → defaultValue (md_ty 0 k) = mj_dv (md_ty 0 k) := by decide +kernel
theorem kc_T : mj_Cl 0 mR_T mF_T 13 := ⟨by decide, rfl, by decide +kernel, by decide +kernel, fun w hw => kw_T w hw⟩
theorem kw_C : ∀ w ∈ u_ws mR_C mF_C 7, w ∈ md_Ts := by
  intro w hw
  have hp : u_ws mR_C mF_C 7 = ([91, 93, 95, 97, 99, 101, 103] : List Nat).filterMap (fun i => tables_1[i]?) := by decide +kernel
  have hg : (u_ws mR_C mF_C 7).all goodWord = true := by decide +kernel
  have h1 := List.all_eq_true.mp hg w hw
  rw [hp] at hw
  obtain ⟨i, -, hi⟩ := List.mem_filterMap.mp hw
  exact List.mem_filter.mpr ⟨List.mem_append_right _ (List.mem_of_getElem? hi), h1⟩
theorem kdv_C : ∀ k, k < 7 → defaultValue (md_ty 1 k) = mj_dv (md_ty 1 k) := by decide +kernel
theorem kc_C : mj_Cl 1 mR_C mF_C 7 := ⟨by decide, rfl, by decide +kernel, by decide +kernel, fun w hw => kw_C w hw⟩
theorem kw_I : ∀ w ∈ u_ws mR_I mF_I 4, w ∈ md_Ts := by
  intro w hw
  have hp : u_ws mR_I mF_I 4 = ([372, 374, 376, 378] : List Nat).filterMap (fun i => tables_1[i]?) := by decide +kernel
  have hg : (u_ws mR_I mF_I 4).all goodWord = true := by decide +kernel
  have h1 := List.all_eq_true.mp hg w hw
  rw [hp] at hw
  obtain ⟨i, -, hi⟩ := List.mem_filterMap.mp hw
  exact List.mem_filter.mpr ⟨List.mem_append_right _ (List.mem_of_getElem? hi), h1⟩
theorem kdv_I : ∀ k, k < 4 → defaultValue (md_ty 2 k) = mj_dv (md_ty 2 k) := by decide +kernel
theorem kc_I : mj_Cl 2 mR_I mF_I 4 := ⟨by decide, rfl, by decide +kernel, by decide +kernel, fun w hw => kw_I w hw⟩
theorem kw_U : ∀ w ∈ u_ws mR_U mF_U 4, w ∈ md_Ts := by
  intro w hw
  have hp : u_ws mR_U mF_U 4 = ([40, 42, 44, 46] : List Nat).filterMap (fun i => tables_1[i]?) := by decide +kernel
  have hg : (u_ws mR_U mF_U 4).all goodWord = true := by decide +kernel
  have h1 := List.all_eq_true.mp hg w hw
  rw [hp] at hw
  obtain ⟨i, -, hi⟩ := List.mem_filterMap.mp hw
  exact List.mem_filter.mpr ⟨List.mem_append_right _ (List.mem_of_getElem? hi), h1⟩
theorem kdv_U : ∀ k, k < 4 → defaultValue (md_ty 3 k) = mj_dv (md_ty 3 k) := by decide +kernel
theorem kc_U : mj_Cl 3 mR_U mF_U 4 := ⟨by decide, rfl, by decide +kernel, by decide +kernel, fun w hw => kw_U w hw⟩
theorem kw_L : ∀ w ∈ u_ws mR_L mF_L 2, w ∈ md_Ts := by
  intro w hw
  have hp : u_ws mR_L mF_L 2 = ([131, 133] : List Nat).filterMap (fun i => tables_1[i]?) := by decide +kernel
  have hg : (u_ws mR_L mF_L 2).all goodWord = true := by decide +kernel
  have h1 := List.all_eq_true.mp hg w hw
  rw [hp] at hw
  obtain ⟨i, -, hi⟩ := List.mem_filterMap.mp hw
  exact List.mem_filter.mpr ⟨List.mem_append_right _ (List.mem_of_getElem? hi), h1⟩
theorem kdv_L : ∀ k, k < 2 → defaultValue (md_ty 4 k) = mj_dv (md_ty 4 k) := by decide +kernel
theorem kc_L : mj_Cl 4 mR_L mF_L 2 := ⟨by decide, rfl, by decide +kernel, by decide +kernel, fun w hw => kw_L w hw⟩
theorem kw_G : ∀ w ∈ u_ws mR_G mF_G 3, w ∈ md_Ts := by
  intro w hw
  have hp : u_ws mR_G mF_G 3 = ([64, 66, 68] : List Nat).filterMap (fun i => tables_1[i]?) := by decide +kernel
  have hg : (u_ws mR_G mF_G 3).all goodWord = true := by decide +kernel
  have h1 := List.all_eq_true.mp hg w hw
  rw [hp] at hw
  obtain ⟨i, -, hi⟩ := List.mem_filterMap.mp hw
  exact List.mem_filter.mpr ⟨List.mem_append_right _ (List.mem_of_getElem? hi), h1⟩
theorem kdv_G : ∀ k, k < 3 → defaultValue (md_ty 5 k) = mj_dv (md_ty 5 k) := by decide +kernel
theorem kc_G : mj_Cl 5 mR_G mF_G 3 := ⟨by decide, rfl, by decide +kernel, by decide +kernel, fun w hw => kw_G w hw⟩
theorem kw_P : ∀ w ∈ u_ws mR_P mF_P 3, w ∈ md_Ts := by
  intro w hw
  have hp : u_ws mR_P mF_P 3 = ([205, 207, 209] : List Nat).filterMap (fun i => tables_1[i]?) := by decide +kernel
  have hg : (u_ws mR_P mF_P 3).all goodWord = true := by decide +kernel
  have h1 := List.all_eq_true.mp hg w hw
  rw [hp] at hw
  obtain ⟨i, -, hi⟩ := List.mem_filterMap.mp hw
  exact List.mem_filter.mpr ⟨List.mem_append_right _ (List.mem_of_getElem? hi), h1⟩
theorem kdv_P : ∀ k, k < 3 → defaultValue (md_ty 6 k) = mj_dv (md_ty 6 k) := by decide +kernel
theorem kc_P : mj_Cl 6 mR_P mF_P 3 := ⟨by decide, rfl, by decide +kernel, by decide +kernel, fun w hw => kw_P w hw⟩
theorem kw_R : ∀ w ∈ u_ws mR_R mF_R 3, w ∈ md_Ts := by
  intro w hw
  have hp : u_ws mR_R mF_R 3 = ([116, 118, 120] : List Nat).filterMap (fun i => tables_1[i]?) := by decide +kernel
  have hg : (u_ws mR_R mF_R 3).all goodWord = true := by decide +kernel
  have h1 := List.all_eq_true.mp hg w hw
  rw [hp] at hw
  obtain ⟨i, -, hi⟩ := List.mem_filterMap.mp hw
  exact List.mem_filter.mpr ⟨List.mem_append_right _ (List.mem_of_getElem? hi), h1⟩
theorem kdv_R : ∀ k, k < 3 → defaultValue (md_ty 7 k) = mj_dv (md_ty 7 k) := by decide +kernel
theorem kc_R : mj_Cl 7 mR_R mF_R 3 := ⟨by decide, rfl, by decide +kernel, by decide +kernel, fun w hw => kw_R w hw⟩
theorem kw_K : ∀ w ∈ u_ws mR_K mF_K 19, w ∈ md_Ts := by
  intro w hw
  have hp : u_ws mR_K mF_K 19 = ([247, 249, 251, 253, 255, 257, 259, 261, 263, 265, 267, 269, 271, 273, 275, 277, 279, 281, 283] : List Nat).filterMap (fun i => tables_1[i]?) := by decide +kernel
  have hg : (u_ws mR_K mF_K 19).all goodWord = true := by decide +kernel
  have h1 := List.all_eq_true.mp hg w hw
  rw [hp] at hw
  obtain ⟨i, -, hi⟩ := List.mem_filterMap.mp hw
  exact List.mem_filter.mpr ⟨List.mem_append_right _ (List.mem_of_getElem? hi), h1⟩
theorem kdv_K : ∀ k, k < 19 → defaultValue (md_ty 8 k) = mj_dv (md_ty 8 k) := by decide +kernel
theorem kc_K : mj_Cl 8 mR_K mF_K 19 := ⟨by decide, rfl, by decide +kernel, by decide +kernel, fun w hw => kw_K w hw⟩
theorem kw_E : ∀ w ∈ u_ws mR_E mF_E 3, w ∈ md_Ts := by
  intro w hw
  have hp : u_ws mR_E mF_E 3 = ([341, 343, 345] : List Nat).filterMap (fun i => tables_1[i]?) := by decide +kernel
  have hg : (u_ws mR_E mF_E 3).all goodWord = true := by decide +kernel
  have h1 := List.all_eq_true.mp hg w hw
  rw [hp] at hw
  obtain ⟨i, -, hi⟩ := List.mem_filterMap.mp hw
  exact List.mem_filter.mpr ⟨List.mem_append_right _ (List.mem_of_getElem? hi), h1⟩
theorem kdv_E : ∀ k, k < 3 → defaultValue (md_ty 9 k) = mj_dv (md_ty 9 k) := by decide +kernel
theorem kc_E : mj_Cl 9 mR_E mF_E 3 := ⟨by decide, rfl, by decide +kernel, by decide +kernel, fun w hw => kw_E w hw⟩
theorem kw_M : ∀ w ∈ u_ws mR_M mF_M 45, w ∈ md_Ts := by
  intro w hw
  have hp : u_ws mR_M mF_M 45 = ([668, 670, 672, 674, 676, 678, 680, 682, 684, 686, 688, 690, 692, 694, 696, 698, 700, 702, 704, 706, 708, 710, 712, 714, 716, 718, 720, 722, 724, 726, 728, 730, 732, 734, 736, 738, 740, 742, 744, 746, 748, 750, 752, 754, 756] : List Nat).filterMap (fun i => tables_1[i]?) := by decide +kernel
  have hg : (u_ws mR_M mF_M 45).all goodWord = true := by decide +kernel
  have h1 := List.all_eq_true.mp hg w hw
  rw [hp] at hw
  obtain ⟨i, -, hi⟩ := List.mem_filterMap.mp hw
  exact List.mem_filter.mpr ⟨List.mem_append_right _ (List.mem_of_getElem? hi), h1⟩
theorem kdv_M : ∀ k, k < 45 → defaultValue (md_ty 10 k) = mj_dv (md_ty 10 k) := by decide +kernel
theorem kc_M : mj_Cl 10 mR_M mF_M 45 := ⟨by decide, rfl, by decide +kernel, by decide +kernel, fun w hw => kw_M w hw⟩
theorem mj_bn {x : Int32} (h : x = 0 ∨ x = 1) : narrow .boolean (.int x) = .int x := by rcases h with rfl | rfl <;> decide
theorem mj_bf {x : Int32} (h : x = 0 ∨ x = 1) : fits .boolean (.int x) = true := by rcases h with rfl | rfl <;> decide
