abbrev mR_T : String := "TaskCores"
def mF_T : u_T := fun k => match k with
  | 0 => ("TaskCores", "tasks", "[LTaskCores$Task;", true)
  | 1 => ("TaskCores", "cores", "[LTaskCores$Core;", true)
  | 2 => ("TaskCores", "resources", "[LTaskCores$Resource;", true)
  | 3 => ("TaskCores", "locks", "[LTaskCores$Lock;", true)
  | 4 => ("TaskCores", "interrupts", "LTaskCores$Interrupts;", true)
  | 5 => ("TaskCores", "codes", "LTaskCores$Log;", true)
  | 6 => ("TaskCores", "switches", "LTaskCores$Log;", true)
  | 7 => ("TaskCores", "nextTelling", "LTaskCores$Telling;", false)
  | 8 => ("TaskCores", "tellingCount", "I", false)
  | 9 => ("TaskCores", "taskCount", "I", false)
  | 10 => ("TaskCores", "partCount", "I", false)
  | 11 => ("TaskCores", "lastTurn", "I", false)
  | _ => ("TaskCores", "time", "I", false)
def mt_T : Nat → FieldType := fun k => match k with
  | 0 => .array (.object "TaskCores$Task")
  | 1 => .array (.object "TaskCores$Core")
  | 2 => .array (.object "TaskCores$Resource")
  | 3 => .array (.object "TaskCores$Lock")
  | 4 => .object "TaskCores$Interrupts"
  | 5 => .object "TaskCores$Log"
  | 6 => .object "TaskCores$Log"
  | 7 => .object "TaskCores$Telling"
  | 8 => .int
  | 9 => .int
  | 10 => .int
  | 11 => .int
  | _ => .int
abbrev mR_C : String := "TaskCores$Core"
def mF_C : u_T := fun k => match k with
  | 0 => ("TaskCores$Core", "number", "I", true)
  | 1 => ("TaskCores$Core", "seen", "LTaskCores$Log;", true)
  | 2 => ("TaskCores$Core", "first", "LTaskCores$Task;", false)
  | 3 => ("TaskCores$Core", "last", "LTaskCores$Task;", false)
  | 4 => ("TaskCores$Core", "runner", "LTaskCores$Task;", false)
  | 5 => ("TaskCores$Core", "who", "I", false)
  | _ => ("TaskCores$Core", "scheduling", "Z", false)
def mt_C : Nat → FieldType := fun k => match k with
  | 0 => .int
  | 1 => .object "TaskCores$Log"
  | 2 => .object "TaskCores$Task"
  | 3 => .object "TaskCores$Task"
  | 4 => .object "TaskCores$Task"
  | 5 => .int
  | _ => .boolean
abbrev mR_I : String := "TaskCores$Interrupt"
def mF_I : u_T := fun k => match k with
  | 0 => ("TaskCores$Interrupt", "level", "I", true)
  | 1 => ("TaskCores$Interrupt", "at", "I", true)
  | 2 => ("TaskCores$Interrupt", "left", "I", false)
  | _ => ("TaskCores$Interrupt", "next", "LTaskCores$Interrupt;", false)
def mt_I : Nat → FieldType := fun k => match k with
  | 0 => .int
  | 1 => .int
  | 2 => .int
  | _ => .object "TaskCores$Interrupt"
abbrev mR_U : String := "TaskCores$Interrupts"
def mF_U : u_T := fun k => match k with
  | 0 => ("TaskCores$Interrupts", "first", "LTaskCores$Interrupt;", false)
  | 1 => ("TaskCores$Interrupts", "told", "I", false)
  | 2 => ("TaskCores$Interrupts", "offBy", "LTaskCores$Task;", false)
  | _ => ("TaskCores$Interrupts", "budgetEnd", "I", false)
def mt_U : Nat → FieldType := fun k => match k with
  | 0 => .object "TaskCores$Interrupt"
  | 1 => .int
  | 2 => .object "TaskCores$Task"
  | _ => .int
abbrev mR_L : String := "TaskCores$Lock"
def mF_L : u_T := fun k => match k with
  | 0 => ("TaskCores$Lock", "owner", "LTaskCores$Task;", false)
  | _ => ("TaskCores$Lock", "firstInQueue", "LTaskCores$Task;", false)
def mt_L : Nat → FieldType := fun k => match k with
  | 0 => .object "TaskCores$Task"
  | _ => .object "TaskCores$Task"
abbrev mR_G : String := "TaskCores$Log"
def mF_G : u_T := fun k => match k with
  | 0 => ("TaskCores$Log", "blocks", "[[J", true)
  | 1 => ("TaskCores$Log", "capacity", "I", true)
  | _ => ("TaskCores$Log", "count", "I", false)
def mt_G : Nat → FieldType := fun k => match k with
  | 0 => .array (.array .long)
  | 1 => .int
  | _ => .int
abbrev mR_P : String := "TaskCores$Part"
def mF_P : u_T := fun k => match k with
  | 0 => ("TaskCores$Part", "kind", "I", true)
  | 1 => ("TaskCores$Part", "value", "I", true)
  | _ => ("TaskCores$Part", "next", "LTaskCores$Part;", false)
def mt_P : Nat → FieldType := fun k => match k with
  | 0 => .int
  | 1 => .int
  | _ => .object "TaskCores$Part"
abbrev mR_R : String := "TaskCores$Resource"
def mF_R : u_T := fun k => match k with
  | 0 => ("TaskCores$Resource", "ceiling", "I", false)
  | 1 => ("TaskCores$Resource", "owner", "LTaskCores$Task;", false)
  | _ => ("TaskCores$Resource", "gotBefore", "LTaskCores$Resource;", false)
def mt_R : Nat → FieldType := fun k => match k with
  | 0 => .int
  | 1 => .object "TaskCores$Task"
  | _ => .object "TaskCores$Resource"
abbrev mR_K : String := "TaskCores$Task"
def mF_K : u_T := fun k => match k with
  | 0 => ("TaskCores$Task", "number", "I", true)
  | 1 => ("TaskCores$Task", "rank", "I", true)
  | 2 => ("TaskCores$Task", "core", "LTaskCores$Core;", true)
  | 3 => ("TaskCores$Task", "bound", "I", true)
  | 4 => ("TaskCores$Task", "extended", "Z", true)
  | 5 => ("TaskCores$Task", "full", "Z", false)
  | 6 => ("TaskCores$Task", "start", "LTaskCores$Part;", true)
  | 7 => ("TaskCores$Task", "part", "LTaskCores$Part;", false)
  | 8 => ("TaskCores$Task", "spent", "I", false)
  | 9 => ("TaskCores$Task", "state", "I", false)
  | 10 => ("TaskCores$Task", "turn", "I", false)
  | 11 => ("TaskCores$Task", "wanted", "I", false)
  | 12 => ("TaskCores$Task", "events", "I", false)
  | 13 => ("TaskCores$Task", "awaited", "I", false)
  | 14 => ("TaskCores$Task", "used", "I", false)
  | 15 => ("TaskCores$Task", "lastGot", "LTaskCores$Resource;", false)
  | 16 => ("TaskCores$Task", "lockCount", "I", false)
  | 17 => ("TaskCores$Task", "nextOnCore", "LTaskCores$Task;", false)
  | _ => ("TaskCores$Task", "nextInQueue", "LTaskCores$Task;", false)
def mt_K : Nat → FieldType := fun k => match k with
  | 0 => .int
  | 1 => .int
  | 2 => .object "TaskCores$Core"
  | 3 => .int
  | 4 => .boolean
  | 5 => .boolean
  | 6 => .object "TaskCores$Part"
  | 7 => .object "TaskCores$Part"
  | 8 => .int
  | 9 => .int
  | 10 => .int
  | 11 => .int
  | 12 => .int
  | 13 => .int
  | 14 => .int
  | 15 => .object "TaskCores$Resource"
  | 16 => .int
  | 17 => .object "TaskCores$Task"
  | _ => .object "TaskCores$Task"
abbrev mR_E : String := "TaskCores$Telling"
def mF_E : u_T := fun k => match k with
  | 0 => ("TaskCores$Telling", "task", "LTaskCores$Task;", true)
  | 1 => ("TaskCores$Telling", "time", "I", true)
  | _ => ("TaskCores$Telling", "next", "LTaskCores$Telling;", false)
def mt_E : Nat → FieldType := fun k => match k with
  | 0 => .object "TaskCores$Task"
  | 1 => .int
  | _ => .object "TaskCores$Telling"
abbrev mR_M : String := "TaskCoresModel"
def mF_M : u_T := fun k => match k with
  | 0 => ("TaskCoresModel", "cores", "I", true)
  | 1 => ("TaskCoresModel", "tasks", "I", false)
  | 2 => ("TaskCoresModel", "rank", "[I", true)
  | 3 => ("TaskCoresModel", "core", "[I", true)
  | 4 => ("TaskCoresModel", "bound", "[I", true)
  | 5 => ("TaskCoresModel", "extended", "[Z", true)
  | 6 => ("TaskCoresModel", "full", "[Z", true)
  | 7 => ("TaskCoresModel", "parts", "I", false)
  | 8 => ("TaskCoresModel", "partOf", "[I", true)
  | 9 => ("TaskCoresModel", "partKind", "[I", true)
  | 10 => ("TaskCoresModel", "partV", "[J", true)
  | 11 => ("TaskCoresModel", "state", "[I", true)
  | 12 => ("TaskCoresModel", "turn", "[J", true)
  | 13 => ("TaskCoresModel", "wanted", "[I", true)
  | 14 => ("TaskCoresModel", "next", "[I", true)
  | 15 => ("TaskCoresModel", "left", "[J", true)
  | 16 => ("TaskCoresModel", "starts", "[Z", true)
  | 17 => ("TaskCoresModel", "events", "[I", true)
  | 18 => ("TaskCoresModel", "awaited", "[I", true)
  | 19 => ("TaskCoresModel", "yields", "[Z", true)
  | 20 => ("TaskCoresModel", "used", "[J", true)
  | 21 => ("TaskCoresModel", "turns", "J", false)
  | 22 => ("TaskCoresModel", "holder", "[I", true)
  | 23 => ("TaskCoresModel", "gotAt", "[J", true)
  | 24 => ("TaskCoresModel", "ceiling", "[I", true)
  | 25 => ("TaskCoresModel", "owner", "[I", true)
  | 26 => ("TaskCoresModel", "spins", "[I", true)
  | 27 => ("TaskCoresModel", "spinsSince", "[J", true)
  | 28 => ("TaskCoresModel", "orders", "J", false)
  | 29 => ("TaskCoresModel", "offBy", "I", false)
  | 30 => ("TaskCoresModel", "offEnd", "J", false)
  | 31 => ("TaskCoresModel", "offTold", "Z", false)
  | 32 => ("TaskCoresModel", "alarms", "I", false)
  | 33 => ("TaskCoresModel", "alarmTask", "[I", true)
  | 34 => ("TaskCoresModel", "alarmAt", "[J", true)
  | 35 => ("TaskCoresModel", "interrupts", "I", false)
  | 36 => ("TaskCoresModel", "level", "[I", true)
  | 37 => ("TaskCoresModel", "comes", "[J", true)
  | 38 => ("TaskCoresModel", "rest", "[J", true)
  | 39 => ("TaskCoresModel", "codes", "I", false)
  | 40 => ("TaskCoresModel", "codeKind", "[I", true)
  | 41 => ("TaskCoresModel", "codeTask", "[I", true)
  | 42 => ("TaskCoresModel", "codeAt", "[J", true)
  | 43 => ("TaskCoresModel", "now", "J", false)
  | _ => ("TaskCoresModel", "who", "[S", true)
def mt_M : Nat → FieldType := fun k => match k with
  | 0 => .int
  | 1 => .int
  | 2 => .array .int
  | 3 => .array .int
  | 4 => .array .int
  | 5 => .array .boolean
  | 6 => .array .boolean
  | 7 => .int
  | 8 => .array .int
  | 9 => .array .int
  | 10 => .array .long
  | 11 => .array .int
  | 12 => .array .long
  | 13 => .array .int
  | 14 => .array .int
  | 15 => .array .long
  | 16 => .array .boolean
  | 17 => .array .int
  | 18 => .array .int
  | 19 => .array .boolean
  | 20 => .array .long
  | 21 => .long
  | 22 => .array .int
  | 23 => .array .long
  | 24 => .array .int
  | 25 => .array .int
  | 26 => .array .int
  | 27 => .array .long
  | 28 => .long
  | 29 => .int
  | 30 => .long
  | 31 => .boolean
  | 32 => .int
  | 33 => .array .int
  | 34 => .array .long
  | 35 => .int
  | 36 => .array .int
  | 37 => .array .long
  | 38 => .array .long
  | 39 => .int
  | 40 => .array .int
  | 41 => .array .int
  | 42 => .array .long
  | 43 => .long
  | _ => .array .short
abbrev mR_W : String := "TaskCoresLaw"
def md_cl : List vw_C := [(mR_T, mF_T, 13), (mR_C, mF_C, 7), (mR_I, mF_I, 4), (mR_U, mF_U, 4), (mR_L, mF_L, 2), (mR_G, mF_G, 3), (mR_P, mF_P, 3), (mR_R, mF_R, 3), (mR_K, mF_K, 19), (mR_E, mF_E, 3), (mR_M, mF_M, 45)]
def md_ty : Nat → Nat → FieldType := fun c => match c with
  | 0 => mt_T
  | 1 => mt_C
  | 2 => mt_I
  | 3 => mt_U
  | 4 => mt_L
  | 5 => mt_G
  | 6 => mt_P
  | 7 => mt_R
  | 8 => mt_K
  | 9 => mt_E
  | _ => mt_M
def md_at : List FieldType := [.int, .long, .boolean, .short, .object "TaskCores$Task", .object "TaskCores$Core", .object "TaskCores$Resource", .object "TaskCores$Lock", .array .long]
def md_Ts : List Cond := lw_tbl.filter goodWord
theorem mw_1 {w : Cond} (i : Nat) (h : tables_1_1[i]? = some w) (g : goodWord w = true) : w ∈ md_Ts := List.mem_filter.mpr ⟨List.mem_append_right _ (List.mem_append_left _ (List.mem_of_getElem? h)), g⟩
theorem mw_2 {w : Cond} (i : Nat) (h : tables_1_2[i]? = some w) (g : goodWord w = true) : w ∈ md_Ts := List.mem_filter.mpr ⟨List.mem_append_right _ (List.mem_append_right _ (List.mem_append_left _ (List.mem_of_getElem? h))), g⟩
theorem mw_3 {w : Cond} (i : Nat) (h : tables_1_3[i]? = some w) (g : goodWord w = true) : w ∈ md_Ts := List.mem_filter.mpr ⟨List.mem_append_right _ (List.mem_append_right _ (List.mem_append_right _ (List.mem_append_left _ (List.mem_of_getElem? h)))), g⟩
theorem mw_4 {w : Cond} (i : Nat) (h : tables_1_4[i]? = some w) (g : goodWord w = true) : w ∈ md_Ts := List.mem_filter.mpr ⟨List.mem_append_right _ (List.mem_append_right _ (List.mem_append_right _ (List.mem_append_right _ (List.mem_of_getElem? h)))), g⟩
theorem mw_p {w : Cond} (i : Nat) (h : (k2_sels lw_privs)[i]? = some w) (g : goodWord w = true) : w ∈ md_Ts := List.mem_filter.mpr ⟨List.mem_append_left _ (List.mem_of_getElem? h), g⟩
theorem tw_0 : (Jvm.Cond.initialized "TaskCoresLaw") ∈ md_Ts := mw_1 0 rfl rfl
theorem tw_1 : (Jvm.Cond.initialized "TaskCores") ∈ md_Ts := mw_1 1 rfl rfl
theorem tw_2 : (Jvm.Cond.initialized "TaskCores$Interrupts") ∈ md_Ts := mw_1 2 rfl rfl
theorem tw_3 : (Jvm.Cond.initialized "TaskCores$Log") ∈ md_Ts := mw_1 3 rfl rfl
theorem tw_4 : (Jvm.Cond.initialized "java/lang/Math") ∈ md_Ts := mw_1 4 rfl rfl
theorem tw_5 : (Jvm.Cond.initialized "TaskCores$Core") ∈ md_Ts := mw_1 5 rfl rfl
theorem tw_6 : (Jvm.Cond.initialized "TaskCores$Resource") ∈ md_Ts := mw_1 6 rfl rfl
theorem tw_7 : (Jvm.Cond.initialized "TaskCores$Lock") ∈ md_Ts := mw_1 7 rfl rfl
theorem tw_8 : (Jvm.Cond.initialized "TaskCoresModel") ∈ md_Ts := mw_1 8 rfl rfl
theorem tw_9 : (Jvm.Cond.initialized "TaskCores$Task") ∈ md_Ts := mw_1 9 rfl rfl
theorem tw_10 : (Jvm.Cond.initialized "TaskCores$Part") ∈ md_Ts := mw_1 10 rfl rfl
theorem tw_11 : (Jvm.Cond.initialized "TaskCores$Telling") ∈ md_Ts := mw_1 11 rfl rfl
theorem tw_12 : (Jvm.Cond.initialized "TaskCores$Interrupt") ∈ md_Ts := mw_1 12 rfl rfl
theorem tw_13 : (Jvm.Cond.classLink "TaskCoresLaw" (7 : Nat) "TaskCores") ∈ md_Ts := mw_1 13 rfl rfl
theorem tw_14 : (Jvm.Cond.instantiable "TaskCores" (13 : Nat)) ∈ md_Ts := mw_1 14 rfl rfl
theorem tw_15 : (Jvm.Cond.methodLink "TaskCoresLaw" (15 : Nat) ({ cls := "TaskCores", name := "<init>", desc := "(I)V" } : Jvm.MethodName)) ∈ md_Ts := mw_1 15 rfl rfl
theorem tw_16 : (Jvm.Cond.instanceMethod ({ cls := "TaskCores", name := "<init>", desc := "(I)V" } : Jvm.MethodName)) ∈ md_Ts := mw_1 16 rfl rfl
theorem tw_17 : (Jvm.Cond.code ({ cls := "TaskCores", name := "<init>", desc := "(I)V" } : Jvm.MethodName) prog_1_method_1_code (4 : Nat) (Option.none : Option Jvm.ClassFile.FieldType)) ∈ md_Ts := mw_1 17 rfl rfl
theorem tw_18 : (Jvm.Cond.methodLink "TaskCores" (1 : Nat) ({ cls := "java/lang/Object", name := "<init>", desc := "()V" } : Jvm.MethodName)) ∈ md_Ts := mw_1 18 rfl rfl
theorem tw_19 : (Jvm.Cond.instanceMethod ({ cls := "java/lang/Object", name := "<init>", desc := "()V" } : Jvm.MethodName)) ∈ md_Ts := mw_1 19 rfl rfl
theorem tw_20 : (Jvm.Cond.code ({ cls := "java/lang/Object", name := "<init>", desc := "()V" } : Jvm.MethodName) object_method_1_code (1 : Nat) (Option.none : Option Jvm.ClassFile.FieldType)) ∈ md_Ts := mw_1 20 rfl rfl
theorem tw_21 : (Jvm.Cond.classLink "TaskCores" (9 : Nat) "TaskCores$Task") ∈ md_Ts := mw_1 21 rfl rfl
theorem tw_23 : (Jvm.Cond.classLink "TaskCores" (15 : Nat) "TaskCores$Resource") ∈ md_Ts := mw_1 23 rfl rfl
theorem tw_25 : (Jvm.Cond.classLink "TaskCores" (21 : Nat) "TaskCores$Lock") ∈ md_Ts := mw_1 25 rfl rfl
theorem tw_27 : (Jvm.Cond.classLink "TaskCores" (27 : Nat) "TaskCores$Interrupts") ∈ md_Ts := mw_1 27 rfl rfl
theorem tw_28 : (Jvm.Cond.instantiable "TaskCores$Interrupts" (4 : Nat)) ∈ md_Ts := mw_1 28 rfl rfl
theorem tw_30 : (Jvm.Cond.instanceMethod ({ cls := "TaskCores$Interrupts", name := "<init>", desc := "()V" } : Jvm.MethodName)) ∈ md_Ts := mw_1 30 rfl rfl
theorem tw_31 : (Jvm.Cond.code ({ cls := "TaskCores$Interrupts", name := "<init>", desc := "()V" } : Jvm.MethodName) prog_4_method_1_code (1 : Nat) (Option.none : Option Jvm.ClassFile.FieldType)) ∈ md_Ts := mw_1 31 rfl rfl
theorem tw_32 : (Jvm.Cond.methodLink "TaskCores$Interrupts" (3 : Nat) ({ cls := "java/lang/Object", name := "<init>", desc := "()V" } : Jvm.MethodName)) ∈ md_Ts := mw_1 32 rfl rfl
theorem tw_33 : (Jvm.Cond.fieldLink "TaskCores$Interrupts" (15 : Nat) "TaskCores$Interrupts" "first" "LTaskCores$Interrupt;") ∈ md_Ts := mw_1 33 rfl rfl
theorem tw_34 : (Jvm.Cond.fieldLink "TaskCores$Interrupts" (9 : Nat) "TaskCores$Interrupts" "told" "I") ∈ md_Ts := mw_1 34 rfl rfl
theorem tw_35 : (Jvm.Cond.fieldLink "TaskCores" (132 : Nat) "TaskCores$Interrupts" "told" "I") ∈ md_Ts := mw_1 35 rfl rfl
theorem tw_36 : (Jvm.Cond.fieldLink "TaskCores$Interrupts" (30 : Nat) "TaskCores$Interrupts" "offBy" "LTaskCores$Task;") ∈ md_Ts := mw_1 36 rfl rfl
theorem tw_37 : (Jvm.Cond.fieldLink "TaskCores" (342 : Nat) "TaskCores$Interrupts" "offBy" "LTaskCores$Task;") ∈ md_Ts := mw_1 37 rfl rfl
theorem tw_38 : (Jvm.Cond.fieldLink "TaskCores$Interrupts" (34 : Nat) "TaskCores$Interrupts" "budgetEnd" "I") ∈ md_Ts := mw_1 38 rfl rfl
theorem tw_39 : (Jvm.Cond.fieldLink "TaskCores" (345 : Nat) "TaskCores$Interrupts" "budgetEnd" "I") ∈ md_Ts := mw_1 39 rfl rfl
theorem tw_49 : (Jvm.Cond.classLink "TaskCores" (34 : Nat) "TaskCores$Log") ∈ md_Ts := mw_1 49 rfl rfl
theorem tw_50 : (Jvm.Cond.instantiable "TaskCores$Log" (3 : Nat)) ∈ md_Ts := mw_1 50 rfl rfl
theorem tw_51 : (Jvm.Cond.methodLink "TaskCores" (36 : Nat) ({ cls := "TaskCores$Log", name := "<init>", desc := "(I)V" } : Jvm.MethodName)) ∈ md_Ts := mw_1 51 rfl rfl
theorem tw_52 : (Jvm.Cond.instanceMethod ({ cls := "TaskCores$Log", name := "<init>", desc := "(I)V" } : Jvm.MethodName)) ∈ md_Ts := mw_1 52 rfl rfl
theorem tw_53 : (Jvm.Cond.code ({ cls := "TaskCores$Log", name := "<init>", desc := "(I)V" } : Jvm.MethodName) prog_6_method_1_code (2 : Nat) (Option.none : Option Jvm.ClassFile.FieldType)) ∈ md_Ts := mw_1 53 rfl rfl
theorem tw_54 : (Jvm.Cond.methodLink "TaskCores$Log" (3 : Nat) ({ cls := "java/lang/Object", name := "<init>", desc := "()V" } : Jvm.MethodName)) ∈ md_Ts := mw_1 54 rfl rfl
theorem tw_55 : (Jvm.Cond.methodLink "TaskCores$Log" (9 : Nat) ({ cls := "java/lang/Math", name := "max", desc := "(II)I" } : Jvm.MethodName)) ∈ md_Ts := mw_1 55 rfl rfl
theorem tw_56 : (Jvm.Cond.static ({ cls := "java/lang/Math", name := "max", desc := "(II)I" } : Jvm.MethodName)) ∈ md_Ts := mw_1 56 rfl rfl
theorem tw_57 : (Jvm.Cond.code ({ cls := "java/lang/Math", name := "max", desc := "(II)I" } : Jvm.MethodName) prog_13_method_65_code (2 : Nat) (Option.some Jvm.ClassFile.FieldType.int)) ∈ md_Ts := mw_1 57 rfl rfl
theorem tw_58 : (Jvm.Cond.classLink "TaskCores$Log" (21 : Nat) "[J") ∈ md_Ts := mw_1 58 rfl rfl
theorem tw_60 : (Jvm.Cond.fieldLink "TaskCores$Log" (23 : Nat) "TaskCores$Log" "blocks" "[[J") ∈ md_Ts := mw_1 60 rfl rfl
theorem tw_61 : (Jvm.Cond.fieldLink "TaskCores$Log" (15 : Nat) "TaskCores$Log" "capacity" "I") ∈ md_Ts := mw_1 61 rfl rfl
theorem tw_62 : (Jvm.Cond.fieldLink "TaskCores$Log" (27 : Nat) "TaskCores$Log" "count" "I") ∈ md_Ts := mw_1 62 rfl rfl
theorem tw_63 : (Jvm.Cond.fieldLink "TaskCores$Core" (44 : Nat) "TaskCores$Log" "count" "I") ∈ md_Ts := mw_1 63 rfl rfl
theorem tw_71 : (Jvm.Cond.classLink "TaskCores" (43 : Nat) "TaskCores$Core") ∈ md_Ts := mw_1 71 rfl rfl
theorem tw_73 : (Jvm.Cond.instantiable "TaskCores$Core" (7 : Nat)) ∈ md_Ts := mw_1 73 rfl rfl
theorem tw_74 : (Jvm.Cond.methodLink "TaskCores" (49 : Nat) ({ cls := "TaskCores$Core", name := "<init>", desc := "(I)V" } : Jvm.MethodName)) ∈ md_Ts := mw_1 74 rfl rfl
theorem tw_75 : (Jvm.Cond.instanceMethod ({ cls := "TaskCores$Core", name := "<init>", desc := "(I)V" } : Jvm.MethodName)) ∈ md_Ts := mw_1 75 rfl rfl
theorem tw_76 : (Jvm.Cond.code ({ cls := "TaskCores$Core", name := "<init>", desc := "(I)V" } : Jvm.MethodName) prog_2_method_1_code (2 : Nat) (Option.none : Option Jvm.ClassFile.FieldType)) ∈ md_Ts := mw_1 76 rfl rfl
theorem tw_77 : (Jvm.Cond.methodLink "TaskCores$Core" (3 : Nat) ({ cls := "java/lang/Object", name := "<init>", desc := "()V" } : Jvm.MethodName)) ∈ md_Ts := mw_1 77 rfl rfl
theorem tw_78 : (Jvm.Cond.classLink "TaskCores$Core" (9 : Nat) "TaskCores$Log") ∈ md_Ts := mw_1 78 rfl rfl
theorem tw_79 : (Jvm.Cond.constant "TaskCores$Core" (11 : Nat) (50000 : Int32)) ∈ md_Ts := mw_1 79 rfl rfl
theorem tw_80 : (Jvm.Cond.methodLink "TaskCores$Core" (12 : Nat) ({ cls := "TaskCores$Log", name := "<init>", desc := "(I)V" } : Jvm.MethodName)) ∈ md_Ts := mw_1 80 rfl rfl
theorem tw_81 : (Jvm.Cond.fieldLink "TaskCores$Core" (21 : Nat) "TaskCores$Core" "number" "I") ∈ md_Ts := mw_1 81 rfl rfl
theorem tw_82 : (Jvm.Cond.fieldLink "TaskCores" (240 : Nat) "TaskCores$Core" "number" "I") ∈ md_Ts := mw_1 82 rfl rfl
theorem tw_83 : (Jvm.Cond.fieldLink "TaskCores$Core" (15 : Nat) "TaskCores$Core" "seen" "LTaskCores$Log;") ∈ md_Ts := mw_1 83 rfl rfl
theorem tw_84 : (Jvm.Cond.fieldLink "TaskCores$Core" (29 : Nat) "TaskCores$Core" "first" "LTaskCores$Task;") ∈ md_Ts := mw_1 84 rfl rfl
theorem tw_85 : (Jvm.Cond.fieldLink "TaskCores" (265 : Nat) "TaskCores$Core" "first" "LTaskCores$Task;") ∈ md_Ts := mw_1 85 rfl rfl
theorem tw_86 : (Jvm.Cond.fieldLink "TaskCores$Core" (25 : Nat) "TaskCores$Core" "last" "LTaskCores$Task;") ∈ md_Ts := mw_1 86 rfl rfl
theorem tw_87 : (Jvm.Cond.fieldLink "TaskCores" (245 : Nat) "TaskCores$Core" "runner" "LTaskCores$Task;") ∈ md_Ts := mw_1 87 rfl rfl
theorem tw_88 : (Jvm.Cond.fieldLink "TaskCores$Core" (37 : Nat) "TaskCores$Core" "who" "I") ∈ md_Ts := mw_1 88 rfl rfl
theorem tw_89 : (Jvm.Cond.fieldLink "TaskCores" (393 : Nat) "TaskCores$Core" "who" "I") ∈ md_Ts := mw_1 89 rfl rfl
theorem tw_90 : (Jvm.Cond.fieldLink "TaskCores" (262 : Nat) "TaskCores$Core" "scheduling" "Z") ∈ md_Ts := mw_1 90 rfl rfl
theorem tw_106 : (Jvm.Cond.instantiable "TaskCores$Resource" (3 : Nat)) ∈ md_Ts := mw_1 106 rfl rfl
theorem tw_108 : (Jvm.Cond.instanceMethod ({ cls := "TaskCores$Resource", name := "<init>", desc := "()V" } : Jvm.MethodName)) ∈ md_Ts := mw_1 108 rfl rfl
theorem tw_109 : (Jvm.Cond.code ({ cls := "TaskCores$Resource", name := "<init>", desc := "()V" } : Jvm.MethodName) prog_8_method_1_code (1 : Nat) (Option.none : Option Jvm.ClassFile.FieldType)) ∈ md_Ts := mw_1 109 rfl rfl
theorem tw_110 : (Jvm.Cond.methodLink "TaskCores$Resource" (1 : Nat) ({ cls := "java/lang/Object", name := "<init>", desc := "()V" } : Jvm.MethodName)) ∈ md_Ts := mw_1 110 rfl rfl
theorem tw_111 : (Jvm.Cond.fieldLink "TaskCores" (89 : Nat) "TaskCores$Resource" "ceiling" "I") ∈ md_Ts := mw_1 111 rfl rfl
theorem tw_112 : (Jvm.Cond.fieldLink "TaskCores$Task" (51 : Nat) "TaskCores$Resource" "ceiling" "I") ∈ md_Ts := mw_1 112 rfl rfl
theorem tw_113 : (Jvm.Cond.fieldLink "TaskCores" (208 : Nat) "TaskCores$Resource" "owner" "LTaskCores$Task;") ∈ md_Ts := mw_1 113 rfl rfl
theorem tw_114 : (Jvm.Cond.fieldLink "TaskCores$Task" (62 : Nat) "TaskCores$Resource" "gotBefore" "LTaskCores$Resource;") ∈ md_Ts := mw_1 114 rfl rfl
theorem tw_115 : (Jvm.Cond.fieldLink "TaskCores" (336 : Nat) "TaskCores$Resource" "gotBefore" "LTaskCores$Resource;") ∈ md_Ts := mw_1 115 rfl rfl
theorem tw_123 : (Jvm.Cond.instantiable "TaskCores$Lock" (2 : Nat)) ∈ md_Ts := mw_1 123 rfl rfl
theorem tw_125 : (Jvm.Cond.instanceMethod ({ cls := "TaskCores$Lock", name := "<init>", desc := "()V" } : Jvm.MethodName)) ∈ md_Ts := mw_1 125 rfl rfl
theorem tw_126 : (Jvm.Cond.code ({ cls := "TaskCores$Lock", name := "<init>", desc := "()V" } : Jvm.MethodName) prog_5_method_1_code (1 : Nat) (Option.none : Option Jvm.ClassFile.FieldType)) ∈ md_Ts := mw_1 126 rfl rfl
theorem tw_127 : (Jvm.Cond.methodLink "TaskCores$Lock" (1 : Nat) ({ cls := "java/lang/Object", name := "<init>", desc := "()V" } : Jvm.MethodName)) ∈ md_Ts := mw_1 127 rfl rfl
theorem tw_128 : (Jvm.Cond.fieldLink "TaskCores$Lock" (22 : Nat) "TaskCores$Lock" "owner" "LTaskCores$Task;") ∈ md_Ts := mw_1 128 rfl rfl
theorem tw_129 : (Jvm.Cond.fieldLink "TaskCores" (193 : Nat) "TaskCores$Lock" "owner" "LTaskCores$Task;") ∈ md_Ts := mw_1 129 rfl rfl
theorem tw_130 : (Jvm.Cond.fieldLink "TaskCores$Lock" (7 : Nat) "TaskCores$Lock" "firstInQueue" "LTaskCores$Task;") ∈ md_Ts := mw_1 130 rfl rfl
theorem tw_136 : (Jvm.Cond.constant "TaskCores" (52 : Nat) (50000 : Int32)) ∈ md_Ts := mw_1 136 rfl rfl
theorem tw_137 : (Jvm.Cond.fieldLink "TaskCores" (11 : Nat) "TaskCores" "tasks" "[LTaskCores$Task;") ∈ md_Ts := mw_1 137 rfl rfl
theorem tw_138 : (Jvm.Cond.fieldLink "TaskCores" (45 : Nat) "TaskCores" "cores" "[LTaskCores$Core;") ∈ md_Ts := mw_1 138 rfl rfl
theorem tw_139 : (Jvm.Cond.fieldLink "TaskCores" (17 : Nat) "TaskCores" "resources" "[LTaskCores$Resource;") ∈ md_Ts := mw_1 139 rfl rfl
theorem tw_140 : (Jvm.Cond.fieldLink "TaskCores" (23 : Nat) "TaskCores" "locks" "[LTaskCores$Lock;") ∈ md_Ts := mw_1 140 rfl rfl
theorem tw_141 : (Jvm.Cond.fieldLink "TaskCores" (30 : Nat) "TaskCores" "interrupts" "LTaskCores$Interrupts;") ∈ md_Ts := mw_1 141 rfl rfl
theorem tw_142 : (Jvm.Cond.fieldLink "TaskCores" (39 : Nat) "TaskCores" "codes" "LTaskCores$Log;") ∈ md_Ts := mw_1 142 rfl rfl
theorem tw_143 : (Jvm.Cond.fieldLink "TaskCores" (53 : Nat) "TaskCores" "switches" "LTaskCores$Log;") ∈ md_Ts := mw_1 143 rfl rfl
theorem tw_144 : (Jvm.Cond.fieldLink "TaskCores" (220 : Nat) "TaskCores" "nextTelling" "LTaskCores$Telling;") ∈ md_Ts := mw_1 144 rfl rfl
theorem tw_145 : (Jvm.Cond.fieldLink "TaskCores" (118 : Nat) "TaskCores" "tellingCount" "I") ∈ md_Ts := mw_1 145 rfl rfl
theorem tw_146 : (Jvm.Cond.fieldLink "TaskCores" (64 : Nat) "TaskCores" "taskCount" "I") ∈ md_Ts := mw_1 146 rfl rfl
theorem tw_147 : (Jvm.Cond.fieldLink "TaskCores" (82 : Nat) "TaskCores" "partCount" "I") ∈ md_Ts := mw_1 147 rfl rfl
theorem tw_148 : (Jvm.Cond.fieldLink "TaskCores" (366 : Nat) "TaskCores" "lastTurn" "I") ∈ md_Ts := mw_1 148 rfl rfl
theorem tw_149 : (Jvm.Cond.fieldLink "TaskCores" (60 : Nat) "TaskCores" "time" "I") ∈ md_Ts := mw_1 149 rfl rfl
theorem tw_177 : (Jvm.Cond.methodLink "TaskCoresLaw" (21 : Nat) ({ cls := "TaskCores", name := "task", desc := "(IIIZ)I" } : Jvm.MethodName)) ∈ md_Ts := mw_1 177 rfl rfl
theorem tw_178 : (Jvm.Cond.instanceMethod ({ cls := "TaskCores", name := "task", desc := "(IIIZ)I" } : Jvm.MethodName)) ∈ md_Ts := mw_1 178 rfl rfl
theorem tw_179 : (Jvm.Cond.selects "TaskCores" ({ cls := "TaskCores", name := "task", desc := "(IIIZ)I" } : Jvm.MethodName) ({ cls := "TaskCores", name := "task", desc := "(IIIZ)I" } : Jvm.MethodName)) ∈ md_Ts := mw_1 179 rfl rfl
theorem tw_180 : (Jvm.Cond.code ({ cls := "TaskCores", name := "task", desc := "(IIIZ)I" } : Jvm.MethodName) prog_1_method_2_code (8 : Nat) (Option.some Jvm.ClassFile.FieldType.int)) ∈ md_Ts := mw_1 180 rfl rfl
theorem tw_181 : (Jvm.Cond.methodLink "TaskCores" (56 : Nat) ({ cls := "TaskCores", name := "coreOf", desc := "(I)LTaskCores$Core;" } : Jvm.MethodName)) ∈ md_Ts := mw_1 181 rfl rfl
theorem tw_183 : (Jvm.Cond.instanceMethod ({ cls := "TaskCores", name := "coreOf", desc := "(I)LTaskCores$Core;" } : Jvm.MethodName)) ∈ md_Ts := mw_1 183 rfl rfl
theorem tw_184 : (Jvm.Cond.code ({ cls := "TaskCores", name := "coreOf", desc := "(I)LTaskCores$Core;" } : Jvm.MethodName) prog_1_method_18_code (2 : Nat) (Option.some (Jvm.ClassFile.FieldType.object "TaskCores$Core"))) ∈ md_Ts := mw_1 184 rfl rfl
theorem tw_185 : (Jvm.Cond.instantiable "TaskCores$Task" (19 : Nat)) ∈ md_Ts := mw_1 185 rfl rfl
theorem tw_186 : (Jvm.Cond.methodLink "TaskCores" (67 : Nat) ({ cls := "TaskCores$Task", name := "<init>", desc := "(IILTaskCores$Core;IZ)V" } : Jvm.MethodName)) ∈ md_Ts := mw_1 186 rfl rfl
theorem tw_187 : (Jvm.Cond.instanceMethod ({ cls := "TaskCores$Task", name := "<init>", desc := "(IILTaskCores$Core;IZ)V" } : Jvm.MethodName)) ∈ md_Ts := mw_1 187 rfl rfl
theorem tw_188 : (Jvm.Cond.code ({ cls := "TaskCores$Task", name := "<init>", desc := "(IILTaskCores$Core;IZ)V" } : Jvm.MethodName) prog_9_method_1_code (6 : Nat) (Option.none : Option Jvm.ClassFile.FieldType)) ∈ md_Ts := mw_1 188 rfl rfl
theorem tw_189 : (Jvm.Cond.methodLink "TaskCores$Task" (3 : Nat) ({ cls := "java/lang/Object", name := "<init>", desc := "()V" } : Jvm.MethodName)) ∈ md_Ts := mw_1 189 rfl rfl
theorem tw_190 : (Jvm.Cond.classLink "TaskCores$Task" (15 : Nat) "TaskCores$Part") ∈ md_Ts := mw_1 190 rfl rfl
theorem tw_191 : (Jvm.Cond.instantiable "TaskCores$Part" (3 : Nat)) ∈ md_Ts := mw_1 191 rfl rfl
theorem tw_192 : (Jvm.Cond.methodLink "TaskCores$Task" (17 : Nat) ({ cls := "TaskCores$Part", name := "<init>", desc := "(II)V" } : Jvm.MethodName)) ∈ md_Ts := mw_1 192 rfl rfl
theorem tw_193 : (Jvm.Cond.instanceMethod ({ cls := "TaskCores$Part", name := "<init>", desc := "(II)V" } : Jvm.MethodName)) ∈ md_Ts := mw_1 193 rfl rfl
theorem tw_194 : (Jvm.Cond.code ({ cls := "TaskCores$Part", name := "<init>", desc := "(II)V" } : Jvm.MethodName) prog_7_method_1_code (3 : Nat) (Option.none : Option Jvm.ClassFile.FieldType)) ∈ md_Ts := mw_1 194 rfl rfl
theorem tw_195 : (Jvm.Cond.methodLink "TaskCores$Part" (1 : Nat) ({ cls := "java/lang/Object", name := "<init>", desc := "()V" } : Jvm.MethodName)) ∈ md_Ts := mw_1 195 rfl rfl
theorem tw_196 : (Jvm.Cond.fieldLink "TaskCores$Part" (7 : Nat) "TaskCores$Part" "kind" "I") ∈ md_Ts := mw_1 196 rfl rfl
theorem tw_197 : (Jvm.Cond.fieldLink "TaskCores$Task" (75 : Nat) "TaskCores$Part" "kind" "I") ∈ md_Ts := mw_1 197 rfl rfl
theorem tw_198 : (Jvm.Cond.fieldLink "TaskCores" (252 : Nat) "TaskCores$Part" "kind" "I") ∈ md_Ts := mw_1 198 rfl rfl
theorem tw_199 : (Jvm.Cond.fieldLink "TaskCores$Part" (13 : Nat) "TaskCores$Part" "value" "I") ∈ md_Ts := mw_1 199 rfl rfl
theorem tw_200 : (Jvm.Cond.fieldLink "TaskCores$Task" (78 : Nat) "TaskCores$Part" "value" "I") ∈ md_Ts := mw_1 200 rfl rfl
theorem tw_201 : (Jvm.Cond.fieldLink "TaskCores" (255 : Nat) "TaskCores$Part" "value" "I") ∈ md_Ts := mw_1 201 rfl rfl
theorem tw_202 : (Jvm.Cond.fieldLink "TaskCores$Task" (44 : Nat) "TaskCores$Part" "next" "LTaskCores$Part;") ∈ md_Ts := mw_1 202 rfl rfl
theorem tw_203 : (Jvm.Cond.fieldLink "TaskCores$Lock" (33 : Nat) "TaskCores$Part" "next" "LTaskCores$Part;") ∈ md_Ts := mw_1 203 rfl rfl
theorem tw_204 : (Jvm.Cond.fieldLink "TaskCores" (281 : Nat) "TaskCores$Part" "next" "LTaskCores$Part;") ∈ md_Ts := mw_1 204 rfl rfl
theorem tw_212 : (Jvm.Cond.fieldLink "TaskCores$Task" (28 : Nat) "TaskCores$Task" "number" "I") ∈ md_Ts := mw_1 212 rfl rfl
theorem tw_213 : (Jvm.Cond.fieldLink "TaskCores" (201 : Nat) "TaskCores$Task" "number" "I") ∈ md_Ts := mw_1 213 rfl rfl
theorem tw_214 : (Jvm.Cond.fieldLink "TaskCores$Task" (31 : Nat) "TaskCores$Task" "rank" "I") ∈ md_Ts := mw_1 214 rfl rfl
theorem tw_215 : (Jvm.Cond.fieldLink "TaskCores" (92 : Nat) "TaskCores$Task" "rank" "I") ∈ md_Ts := mw_1 215 rfl rfl
theorem tw_216 : (Jvm.Cond.fieldLink "TaskCores$Task" (34 : Nat) "TaskCores$Task" "core" "LTaskCores$Core;") ∈ md_Ts := mw_1 216 rfl rfl
theorem tw_217 : (Jvm.Cond.fieldLink "TaskCores$Lock" (18 : Nat) "TaskCores$Task" "core" "LTaskCores$Core;") ∈ md_Ts := mw_1 217 rfl rfl
theorem tw_218 : (Jvm.Cond.fieldLink "TaskCores" (197 : Nat) "TaskCores$Task" "core" "LTaskCores$Core;") ∈ md_Ts := mw_1 218 rfl rfl
theorem tw_219 : (Jvm.Cond.fieldLink "TaskCores$Task" (38 : Nat) "TaskCores$Task" "bound" "I") ∈ md_Ts := mw_1 219 rfl rfl
theorem tw_220 : (Jvm.Cond.fieldLink "TaskCores" (357 : Nat) "TaskCores$Task" "bound" "I") ∈ md_Ts := mw_1 220 rfl rfl
theorem tw_221 : (Jvm.Cond.fieldLink "TaskCores$Task" (41 : Nat) "TaskCores$Task" "extended" "Z") ∈ md_Ts := mw_1 221 rfl rfl
theorem tw_222 : (Jvm.Cond.fieldLink "TaskCores" (323 : Nat) "TaskCores$Task" "extended" "Z") ∈ md_Ts := mw_1 222 rfl rfl
theorem tw_223 : (Jvm.Cond.fieldLink "TaskCores$Task" (9 : Nat) "TaskCores$Task" "full" "Z") ∈ md_Ts := mw_1 223 rfl rfl
theorem tw_224 : (Jvm.Cond.fieldLink "TaskCores" (110 : Nat) "TaskCores$Task" "full" "Z") ∈ md_Ts := mw_1 224 rfl rfl
theorem tw_225 : (Jvm.Cond.fieldLink "TaskCores$Task" (20 : Nat) "TaskCores$Task" "start" "LTaskCores$Part;") ∈ md_Ts := mw_1 225 rfl rfl
theorem tw_226 : (Jvm.Cond.fieldLink "TaskCores" (363 : Nat) "TaskCores$Task" "start" "LTaskCores$Part;") ∈ md_Ts := mw_1 226 rfl rfl
theorem tw_227 : (Jvm.Cond.fieldLink "TaskCores$Lock" (29 : Nat) "TaskCores$Task" "part" "LTaskCores$Part;") ∈ md_Ts := mw_1 227 rfl rfl
theorem tw_228 : (Jvm.Cond.fieldLink "TaskCores$Task" (72 : Nat) "TaskCores$Task" "part" "LTaskCores$Part;") ∈ md_Ts := mw_1 228 rfl rfl
theorem tw_229 : (Jvm.Cond.fieldLink "TaskCores" (248 : Nat) "TaskCores$Task" "part" "LTaskCores$Part;") ∈ md_Ts := mw_1 229 rfl rfl
theorem tw_230 : (Jvm.Cond.fieldLink "TaskCores$Task" (81 : Nat) "TaskCores$Task" "spent" "I") ∈ md_Ts := mw_1 230 rfl rfl
theorem tw_231 : (Jvm.Cond.fieldLink "TaskCores$Task" (24 : Nat) "TaskCores$Task" "state" "I") ∈ md_Ts := mw_1 231 rfl rfl
theorem tw_232 : (Jvm.Cond.fieldLink "TaskCores" (172 : Nat) "TaskCores$Task" "state" "I") ∈ md_Ts := mw_1 232 rfl rfl
theorem tw_233 : (Jvm.Cond.fieldLink "TaskCores$Task" (69 : Nat) "TaskCores$Task" "turn" "I") ∈ md_Ts := mw_1 233 rfl rfl
theorem tw_234 : (Jvm.Cond.fieldLink "TaskCores" (369 : Nat) "TaskCores$Task" "turn" "I") ∈ md_Ts := mw_1 234 rfl rfl
theorem tw_235 : (Jvm.Cond.fieldLink "TaskCores" (354 : Nat) "TaskCores$Task" "wanted" "I") ∈ md_Ts := mw_1 235 rfl rfl
theorem tw_236 : (Jvm.Cond.fieldLink "TaskCores" (183 : Nat) "TaskCores$Task" "events" "I") ∈ md_Ts := mw_1 236 rfl rfl
theorem tw_237 : (Jvm.Cond.fieldLink "TaskCores" (333 : Nat) "TaskCores$Task" "awaited" "I") ∈ md_Ts := mw_1 237 rfl rfl
theorem tw_238 : (Jvm.Cond.fieldLink "TaskCores$Task" (85 : Nat) "TaskCores$Task" "used" "I") ∈ md_Ts := mw_1 238 rfl rfl
theorem tw_239 : (Jvm.Cond.fieldLink "TaskCores" (169 : Nat) "TaskCores$Task" "used" "I") ∈ md_Ts := mw_1 239 rfl rfl
theorem tw_240 : (Jvm.Cond.fieldLink "TaskCores$Task" (47 : Nat) "TaskCores$Task" "lastGot" "LTaskCores$Resource;") ∈ md_Ts := mw_2 0 rfl rfl
theorem tw_241 : (Jvm.Cond.fieldLink "TaskCores" (326 : Nat) "TaskCores$Task" "lastGot" "LTaskCores$Resource;") ∈ md_Ts := mw_2 1 rfl rfl
theorem tw_242 : (Jvm.Cond.fieldLink "TaskCores$Lock" (25 : Nat) "TaskCores$Task" "lockCount" "I") ∈ md_Ts := mw_2 2 rfl rfl
theorem tw_243 : (Jvm.Cond.fieldLink "TaskCores" (330 : Nat) "TaskCores$Task" "lockCount" "I") ∈ md_Ts := mw_2 3 rfl rfl
theorem tw_244 : (Jvm.Cond.fieldLink "TaskCores$Core" (32 : Nat) "TaskCores$Task" "nextOnCore" "LTaskCores$Task;") ∈ md_Ts := mw_2 4 rfl rfl
theorem tw_245 : (Jvm.Cond.fieldLink "TaskCores" (272 : Nat) "TaskCores$Task" "nextOnCore" "LTaskCores$Task;") ∈ md_Ts := mw_2 5 rfl rfl
theorem tw_246 : (Jvm.Cond.fieldLink "TaskCores$Lock" (13 : Nat) "TaskCores$Task" "nextInQueue" "LTaskCores$Task;") ∈ md_Ts := mw_2 6 rfl rfl
theorem tw_286 : (Jvm.Cond.methodLink "TaskCores" (70 : Nat) ({ cls := "TaskCores$Core", name := "addTask", desc := "(LTaskCores$Task;)V" } : Jvm.MethodName)) ∈ md_Ts := mw_2 46 rfl rfl
theorem tw_287 : (Jvm.Cond.instanceMethod ({ cls := "TaskCores$Core", name := "addTask", desc := "(LTaskCores$Task;)V" } : Jvm.MethodName)) ∈ md_Ts := mw_2 47 rfl rfl
theorem tw_288 : (Jvm.Cond.selects "TaskCores$Core" ({ cls := "TaskCores$Core", name := "addTask", desc := "(LTaskCores$Task;)V" } : Jvm.MethodName) ({ cls := "TaskCores$Core", name := "addTask", desc := "(LTaskCores$Task;)V" } : Jvm.MethodName)) ∈ md_Ts := mw_2 48 rfl rfl
theorem tw_289 : (Jvm.Cond.code ({ cls := "TaskCores$Core", name := "addTask", desc := "(LTaskCores$Task;)V" } : Jvm.MethodName) prog_2_method_2_code (2 : Nat) (Option.none : Option Jvm.ClassFile.FieldType)) ∈ md_Ts := mw_2 49 rfl rfl
theorem tw_290 : (Jvm.Cond.methodLink "TaskCoresLaw" (28 : Nat) ({ cls := "TaskCores", name := "part", desc := "(IIJ)I" } : Jvm.MethodName)) ∈ md_Ts := mw_2 50 rfl rfl
theorem tw_291 : (Jvm.Cond.instanceMethod ({ cls := "TaskCores", name := "part", desc := "(IIJ)I" } : Jvm.MethodName)) ∈ md_Ts := mw_2 51 rfl rfl
theorem tw_292 : (Jvm.Cond.selects "TaskCores" ({ cls := "TaskCores", name := "part", desc := "(IIJ)I" } : Jvm.MethodName) ({ cls := "TaskCores", name := "part", desc := "(IIJ)I" } : Jvm.MethodName)) ∈ md_Ts := mw_2 52 rfl rfl
theorem tw_293 : (Jvm.Cond.code ({ cls := "TaskCores", name := "part", desc := "(IIJ)I" } : Jvm.MethodName) prog_1_method_3_code (8 : Nat) (Option.some Jvm.ClassFile.FieldType.int)) ∈ md_Ts := mw_2 53 rfl rfl
theorem tw_294 : (Jvm.Cond.methodLink "TaskCores" (74 : Nat) ({ cls := "TaskCores", name := "taskOf", desc := "(I)LTaskCores$Task;" } : Jvm.MethodName)) ∈ md_Ts := mw_2 54 rfl rfl
theorem tw_296 : (Jvm.Cond.instanceMethod ({ cls := "TaskCores", name := "taskOf", desc := "(I)LTaskCores$Task;" } : Jvm.MethodName)) ∈ md_Ts := mw_2 56 rfl rfl
theorem tw_297 : (Jvm.Cond.code ({ cls := "TaskCores", name := "taskOf", desc := "(I)LTaskCores$Task;" } : Jvm.MethodName) prog_1_method_19_code (2 : Nat) (Option.some (Jvm.ClassFile.FieldType.object "TaskCores$Task"))) ∈ md_Ts := mw_2 57 rfl rfl
theorem tw_298 : (Jvm.Cond.methodLink "TaskCores" (78 : Nat) ({ cls := "TaskCores", name := "mayBePart", desc := "(IJ)Z" } : Jvm.MethodName)) ∈ md_Ts := mw_2 58 rfl rfl
theorem tw_299 : (Jvm.Cond.static ({ cls := "TaskCores", name := "mayBePart", desc := "(IJ)Z" } : Jvm.MethodName)) ∈ md_Ts := mw_2 59 rfl rfl
theorem tw_300 : (Jvm.Cond.code ({ cls := "TaskCores", name := "mayBePart", desc := "(IJ)Z" } : Jvm.MethodName) prog_1_method_23_code (3 : Nat) (Option.some Jvm.ClassFile.FieldType.boolean)) ∈ md_Ts := mw_2 60 rfl rfl
theorem tw_301 : (Jvm.Cond.fieldLink "TaskCores" (211 : Nat) "TaskCores" "LEAST_VALUE" "[I") ∈ md_Ts := mw_2 61 rfl rfl
theorem tw_303 : (Jvm.Cond.fieldLink "TaskCores" (215 : Nat) "TaskCores" "MOST_VALUE" "[I") ∈ md_Ts := mw_2 63 rfl rfl
theorem tw_305 : (Jvm.Cond.constantLong "TaskCores" (218 : Nat) (65536 : Int64)) ∈ md_Ts := mw_2 65 rfl rfl
theorem tw_306 : (Jvm.Cond.methodLink "TaskCores" (85 : Nat) ({ cls := "TaskCores", name := "resourceOf", desc := "(I)LTaskCores$Resource;" } : Jvm.MethodName)) ∈ md_Ts := mw_2 66 rfl rfl
theorem tw_308 : (Jvm.Cond.instanceMethod ({ cls := "TaskCores", name := "resourceOf", desc := "(I)LTaskCores$Resource;" } : Jvm.MethodName)) ∈ md_Ts := mw_2 68 rfl rfl
theorem tw_309 : (Jvm.Cond.code ({ cls := "TaskCores", name := "resourceOf", desc := "(I)LTaskCores$Resource;" } : Jvm.MethodName) prog_1_method_20_code (2 : Nat) (Option.some (Jvm.ClassFile.FieldType.object "TaskCores$Resource"))) ∈ md_Ts := mw_2 69 rfl rfl
theorem tw_310 : (Jvm.Cond.methodLink "TaskCores" (95 : Nat) ({ cls := "java/lang/Math", name := "max", desc := "(II)I" } : Jvm.MethodName)) ∈ md_Ts := mw_2 70 rfl rfl
theorem tw_311 : (Jvm.Cond.classLink "TaskCores" (101 : Nat) "TaskCores$Part") ∈ md_Ts := mw_2 71 rfl rfl
theorem tw_312 : (Jvm.Cond.methodLink "TaskCores" (103 : Nat) ({ cls := "TaskCores$Part", name := "<init>", desc := "(II)V" } : Jvm.MethodName)) ∈ md_Ts := mw_2 72 rfl rfl
theorem tw_313 : (Jvm.Cond.methodLink "TaskCores" (106 : Nat) ({ cls := "TaskCores$Task", name := "addPart", desc := "(LTaskCores$Part;)I" } : Jvm.MethodName)) ∈ md_Ts := mw_2 73 rfl rfl
theorem tw_314 : (Jvm.Cond.instanceMethod ({ cls := "TaskCores$Task", name := "addPart", desc := "(LTaskCores$Part;)I" } : Jvm.MethodName)) ∈ md_Ts := mw_2 74 rfl rfl
theorem tw_315 : (Jvm.Cond.selects "TaskCores$Task" ({ cls := "TaskCores$Task", name := "addPart", desc := "(LTaskCores$Part;)I" } : Jvm.MethodName) ({ cls := "TaskCores$Task", name := "addPart", desc := "(LTaskCores$Part;)I" } : Jvm.MethodName)) ∈ md_Ts := mw_2 75 rfl rfl
theorem tw_316 : (Jvm.Cond.code ({ cls := "TaskCores$Task", name := "addPart", desc := "(LTaskCores$Part;)I" } : Jvm.MethodName) prog_9_method_2_code (5 : Nat) (Option.some Jvm.ClassFile.FieldType.int)) ∈ md_Ts := mw_2 76 rfl rfl
theorem tw_317 : (Jvm.Cond.methodLink "TaskCoresLaw" (33 : Nat) ({ cls := "TaskCores", name := "manner", desc := "(IZ)I" } : Jvm.MethodName)) ∈ md_Ts := mw_2 77 rfl rfl
theorem tw_318 : (Jvm.Cond.instanceMethod ({ cls := "TaskCores", name := "manner", desc := "(IZ)I" } : Jvm.MethodName)) ∈ md_Ts := mw_2 78 rfl rfl
theorem tw_319 : (Jvm.Cond.selects "TaskCores" ({ cls := "TaskCores", name := "manner", desc := "(IZ)I" } : Jvm.MethodName) ({ cls := "TaskCores", name := "manner", desc := "(IZ)I" } : Jvm.MethodName)) ∈ md_Ts := mw_2 79 rfl rfl
theorem tw_320 : (Jvm.Cond.code ({ cls := "TaskCores", name := "manner", desc := "(IZ)I" } : Jvm.MethodName) prog_1_method_4_code (4 : Nat) (Option.some Jvm.ClassFile.FieldType.int)) ∈ md_Ts := mw_2 80 rfl rfl
theorem tw_321 : (Jvm.Cond.methodLink "TaskCoresLaw" (38 : Nat) ({ cls := "TaskCores", name := "activate", desc := "(IJ)I" } : Jvm.MethodName)) ∈ md_Ts := mw_2 81 rfl rfl
theorem tw_322 : (Jvm.Cond.instanceMethod ({ cls := "TaskCores", name := "activate", desc := "(IJ)I" } : Jvm.MethodName)) ∈ md_Ts := mw_2 82 rfl rfl
theorem tw_323 : (Jvm.Cond.selects "TaskCores" ({ cls := "TaskCores", name := "activate", desc := "(IJ)I" } : Jvm.MethodName) ({ cls := "TaskCores", name := "activate", desc := "(IJ)I" } : Jvm.MethodName)) ∈ md_Ts := mw_2 83 rfl rfl
theorem tw_324 : (Jvm.Cond.code ({ cls := "TaskCores", name := "activate", desc := "(IJ)I" } : Jvm.MethodName) prog_1_method_5_code (5 : Nat) (Option.some Jvm.ClassFile.FieldType.int)) ∈ md_Ts := mw_2 84 rfl rfl
theorem tw_325 : (Jvm.Cond.methodLink "TaskCores" (114 : Nat) ({ cls := "TaskCores", name := "isToCome", desc := "(J)Z" } : Jvm.MethodName)) ∈ md_Ts := mw_2 85 rfl rfl
theorem tw_327 : (Jvm.Cond.instanceMethod ({ cls := "TaskCores", name := "isToCome", desc := "(J)Z" } : Jvm.MethodName)) ∈ md_Ts := mw_2 87 rfl rfl
theorem tw_328 : (Jvm.Cond.code ({ cls := "TaskCores", name := "isToCome", desc := "(J)Z" } : Jvm.MethodName) prog_1_method_22_code (3 : Nat) (Option.some Jvm.ClassFile.FieldType.boolean)) ∈ md_Ts := mw_2 88 rfl rfl
theorem tw_329 : (Jvm.Cond.constantLong "TaskCores" (209 : Nat) (50000 : Int64)) ∈ md_Ts := mw_2 89 rfl rfl
theorem tw_330 : (Jvm.Cond.classLink "TaskCores" (121 : Nat) "TaskCores$Telling") ∈ md_Ts := mw_2 90 rfl rfl
theorem tw_331 : (Jvm.Cond.instantiable "TaskCores$Telling" (3 : Nat)) ∈ md_Ts := mw_2 91 rfl rfl
theorem tw_332 : (Jvm.Cond.methodLink "TaskCores" (123 : Nat) ({ cls := "TaskCores$Telling", name := "<init>", desc := "(LTaskCores$Task;I)V" } : Jvm.MethodName)) ∈ md_Ts := mw_2 92 rfl rfl
theorem tw_333 : (Jvm.Cond.instanceMethod ({ cls := "TaskCores$Telling", name := "<init>", desc := "(LTaskCores$Task;I)V" } : Jvm.MethodName)) ∈ md_Ts := mw_2 93 rfl rfl
theorem tw_334 : (Jvm.Cond.code ({ cls := "TaskCores$Telling", name := "<init>", desc := "(LTaskCores$Task;I)V" } : Jvm.MethodName) prog_10_method_1_code (3 : Nat) (Option.none : Option Jvm.ClassFile.FieldType)) ∈ md_Ts := mw_2 94 rfl rfl
theorem tw_335 : (Jvm.Cond.methodLink "TaskCores$Telling" (1 : Nat) ({ cls := "java/lang/Object", name := "<init>", desc := "()V" } : Jvm.MethodName)) ∈ md_Ts := mw_2 95 rfl rfl
theorem tw_336 : (Jvm.Cond.fieldLink "TaskCores$Telling" (7 : Nat) "TaskCores$Telling" "task" "LTaskCores$Task;") ∈ md_Ts := mw_2 96 rfl rfl
theorem tw_337 : (Jvm.Cond.fieldLink "TaskCores" (228 : Nat) "TaskCores$Telling" "task" "LTaskCores$Task;") ∈ md_Ts := mw_2 97 rfl rfl
theorem tw_338 : (Jvm.Cond.fieldLink "TaskCores$Telling" (13 : Nat) "TaskCores$Telling" "time" "I") ∈ md_Ts := mw_2 98 rfl rfl
theorem tw_339 : (Jvm.Cond.fieldLink "TaskCores" (224 : Nat) "TaskCores$Telling" "time" "I") ∈ md_Ts := mw_2 99 rfl rfl
theorem tw_340 : (Jvm.Cond.fieldLink "TaskCores" (225 : Nat) "TaskCores$Telling" "next" "LTaskCores$Telling;") ∈ md_Ts := mw_2 100 rfl rfl
theorem tw_348 : (Jvm.Cond.methodLink "TaskCores" (126 : Nat) ({ cls := "TaskCores", name := "addTelling", desc := "(LTaskCores$Telling;)V" } : Jvm.MethodName)) ∈ md_Ts := mw_2 108 rfl rfl
theorem tw_350 : (Jvm.Cond.instanceMethod ({ cls := "TaskCores", name := "addTelling", desc := "(LTaskCores$Telling;)V" } : Jvm.MethodName)) ∈ md_Ts := mw_2 110 rfl rfl
theorem tw_351 : (Jvm.Cond.code ({ cls := "TaskCores", name := "addTelling", desc := "(LTaskCores$Telling;)V" } : Jvm.MethodName) prog_1_method_24_code (4 : Nat) (Option.none : Option Jvm.ClassFile.FieldType)) ∈ md_Ts := mw_2 111 rfl rfl
theorem tw_352 : (Jvm.Cond.methodLink "TaskCoresLaw" (43 : Nat) ({ cls := "TaskCores", name := "interrupt", desc := "(IJJ)I" } : Jvm.MethodName)) ∈ md_Ts := mw_2 112 rfl rfl
theorem tw_353 : (Jvm.Cond.instanceMethod ({ cls := "TaskCores", name := "interrupt", desc := "(IJJ)I" } : Jvm.MethodName)) ∈ md_Ts := mw_2 113 rfl rfl
theorem tw_354 : (Jvm.Cond.selects "TaskCores" ({ cls := "TaskCores", name := "interrupt", desc := "(IJJ)I" } : Jvm.MethodName) ({ cls := "TaskCores", name := "interrupt", desc := "(IJJ)I" } : Jvm.MethodName)) ∈ md_Ts := mw_2 114 rfl rfl
theorem tw_355 : (Jvm.Cond.code ({ cls := "TaskCores", name := "interrupt", desc := "(IJJ)I" } : Jvm.MethodName) prog_1_method_6_code (6 : Nat) (Option.some Jvm.ClassFile.FieldType.int)) ∈ md_Ts := mw_2 115 rfl rfl
theorem tw_356 : (Jvm.Cond.constantLong "TaskCores" (130 : Nat) (10000 : Int64)) ∈ md_Ts := mw_2 116 rfl rfl
theorem tw_357 : (Jvm.Cond.classLink "TaskCores" (135 : Nat) "TaskCores$Interrupt") ∈ md_Ts := mw_2 117 rfl rfl
theorem tw_358 : (Jvm.Cond.instantiable "TaskCores$Interrupt" (4 : Nat)) ∈ md_Ts := mw_2 118 rfl rfl
theorem tw_359 : (Jvm.Cond.methodLink "TaskCores" (137 : Nat) ({ cls := "TaskCores$Interrupt", name := "<init>", desc := "(III)V" } : Jvm.MethodName)) ∈ md_Ts := mw_2 119 rfl rfl
theorem tw_360 : (Jvm.Cond.instanceMethod ({ cls := "TaskCores$Interrupt", name := "<init>", desc := "(III)V" } : Jvm.MethodName)) ∈ md_Ts := mw_2 120 rfl rfl
theorem tw_361 : (Jvm.Cond.code ({ cls := "TaskCores$Interrupt", name := "<init>", desc := "(III)V" } : Jvm.MethodName) prog_3_method_1_code (4 : Nat) (Option.none : Option Jvm.ClassFile.FieldType)) ∈ md_Ts := mw_2 121 rfl rfl
theorem tw_362 : (Jvm.Cond.methodLink "TaskCores$Interrupt" (1 : Nat) ({ cls := "java/lang/Object", name := "<init>", desc := "()V" } : Jvm.MethodName)) ∈ md_Ts := mw_2 122 rfl rfl
theorem tw_363 : (Jvm.Cond.fieldLink "TaskCores$Interrupt" (7 : Nat) "TaskCores$Interrupt" "level" "I") ∈ md_Ts := mw_2 123 rfl rfl
theorem tw_364 : (Jvm.Cond.fieldLink "TaskCores$Interrupts" (19 : Nat) "TaskCores$Interrupt" "level" "I") ∈ md_Ts := mw_2 124 rfl rfl
theorem tw_365 : (Jvm.Cond.fieldLink "TaskCores" (387 : Nat) "TaskCores$Interrupt" "level" "I") ∈ md_Ts := mw_2 125 rfl rfl
theorem tw_366 : (Jvm.Cond.fieldLink "TaskCores$Interrupt" (13 : Nat) "TaskCores$Interrupt" "at" "I") ∈ md_Ts := mw_2 126 rfl rfl
theorem tw_367 : (Jvm.Cond.fieldLink "TaskCores$Interrupts" (27 : Nat) "TaskCores$Interrupt" "at" "I") ∈ md_Ts := mw_2 127 rfl rfl
theorem tw_368 : (Jvm.Cond.fieldLink "TaskCores$Interrupt" (16 : Nat) "TaskCores$Interrupt" "left" "I") ∈ md_Ts := mw_2 128 rfl rfl
theorem tw_369 : (Jvm.Cond.fieldLink "TaskCores$Interrupts" (44 : Nat) "TaskCores$Interrupt" "left" "I") ∈ md_Ts := mw_2 129 rfl rfl
theorem tw_370 : (Jvm.Cond.fieldLink "TaskCores" (380 : Nat) "TaskCores$Interrupt" "left" "I") ∈ md_Ts := mw_2 130 rfl rfl
theorem tw_371 : (Jvm.Cond.fieldLink "TaskCores$Interrupts" (24 : Nat) "TaskCores$Interrupt" "next" "LTaskCores$Interrupt;") ∈ md_Ts := mw_2 131 rfl rfl
theorem tw_381 : (Jvm.Cond.methodLink "TaskCores" (140 : Nat) ({ cls := "TaskCores$Interrupts", name := "add", desc := "(LTaskCores$Interrupt;)V" } : Jvm.MethodName)) ∈ md_Ts := mw_2 141 rfl rfl
theorem tw_382 : (Jvm.Cond.instanceMethod ({ cls := "TaskCores$Interrupts", name := "add", desc := "(LTaskCores$Interrupt;)V" } : Jvm.MethodName)) ∈ md_Ts := mw_2 142 rfl rfl
theorem tw_383 : (Jvm.Cond.selects "TaskCores$Interrupts" ({ cls := "TaskCores$Interrupts", name := "add", desc := "(LTaskCores$Interrupt;)V" } : Jvm.MethodName) ({ cls := "TaskCores$Interrupts", name := "add", desc := "(LTaskCores$Interrupt;)V" } : Jvm.MethodName)) ∈ md_Ts := mw_2 143 rfl rfl
theorem tw_384 : (Jvm.Cond.code ({ cls := "TaskCores$Interrupts", name := "add", desc := "(LTaskCores$Interrupt;)V" } : Jvm.MethodName) prog_4_method_2_code (4 : Nat) (Option.none : Option Jvm.ClassFile.FieldType)) ∈ md_Ts := mw_2 144 rfl rfl
theorem tw_385 : (Jvm.Cond.methodLink "TaskCoresLaw" (48 : Nat) ({ cls := "TaskCores", name := "run", desc := "(J)I" } : Jvm.MethodName)) ∈ md_Ts := mw_2 145 rfl rfl
theorem tw_386 : (Jvm.Cond.instanceMethod ({ cls := "TaskCores", name := "run", desc := "(J)I" } : Jvm.MethodName)) ∈ md_Ts := mw_2 146 rfl rfl
theorem tw_387 : (Jvm.Cond.selects "TaskCores" ({ cls := "TaskCores", name := "run", desc := "(J)I" } : Jvm.MethodName) ({ cls := "TaskCores", name := "run", desc := "(J)I" } : Jvm.MethodName)) ∈ md_Ts := mw_2 147 rfl rfl
theorem tw_388 : (Jvm.Cond.code ({ cls := "TaskCores", name := "run", desc := "(J)I" } : Jvm.MethodName) prog_1_method_7_code (10 : Nat) (Option.some Jvm.ClassFile.FieldType.int)) ∈ md_Ts := mw_2 148 rfl rfl
theorem tw_389 : (Jvm.Cond.methodLink "TaskCores" (144 : Nat) ({ cls := "TaskCores", name := "activateThoseTold", desc := "()V" } : Jvm.MethodName)) ∈ md_Ts := mw_2 149 rfl rfl
theorem tw_391 : (Jvm.Cond.instanceMethod ({ cls := "TaskCores", name := "activateThoseTold", desc := "()V" } : Jvm.MethodName)) ∈ md_Ts := mw_2 151 rfl rfl
theorem tw_392 : (Jvm.Cond.code ({ cls := "TaskCores", name := "activateThoseTold", desc := "()V" } : Jvm.MethodName) prog_1_method_25_code (2 : Nat) (Option.none : Option Jvm.ClassFile.FieldType)) ∈ md_Ts := mw_2 152 rfl rfl
theorem tw_393 : (Jvm.Cond.methodLink "TaskCores" (231 : Nat) ({ cls := "TaskCores", name := "activateTask", desc := "(LTaskCores$Task;)V" } : Jvm.MethodName)) ∈ md_Ts := mw_2 153 rfl rfl
theorem tw_395 : (Jvm.Cond.instanceMethod ({ cls := "TaskCores", name := "activateTask", desc := "(LTaskCores$Task;)V" } : Jvm.MethodName)) ∈ md_Ts := mw_2 155 rfl rfl
theorem tw_396 : (Jvm.Cond.code ({ cls := "TaskCores", name := "activateTask", desc := "(LTaskCores$Task;)V" } : Jvm.MethodName) prog_1_method_43_code (2 : Nat) (Option.none : Option Jvm.ClassFile.FieldType)) ∈ md_Ts := mw_2 156 rfl rfl
theorem tw_397 : (Jvm.Cond.methodLink "TaskCores" (351 : Nat) ({ cls := "TaskCores", name := "startTask", desc := "(LTaskCores$Task;)V" } : Jvm.MethodName)) ∈ md_Ts := mw_2 157 rfl rfl
theorem tw_399 : (Jvm.Cond.instanceMethod ({ cls := "TaskCores", name := "startTask", desc := "(LTaskCores$Task;)V" } : Jvm.MethodName)) ∈ md_Ts := mw_2 159 rfl rfl
theorem tw_400 : (Jvm.Cond.code ({ cls := "TaskCores", name := "startTask", desc := "(LTaskCores$Task;)V" } : Jvm.MethodName) prog_1_method_46_code (2 : Nat) (Option.none : Option Jvm.ClassFile.FieldType)) ∈ md_Ts := mw_2 160 rfl rfl
theorem tw_401 : (Jvm.Cond.methodLink "TaskCores" (348 : Nat) ({ cls := "TaskCores", name := "makeReady", desc := "(LTaskCores$Task;)V" } : Jvm.MethodName)) ∈ md_Ts := mw_2 161 rfl rfl
theorem tw_403 : (Jvm.Cond.instanceMethod ({ cls := "TaskCores", name := "makeReady", desc := "(LTaskCores$Task;)V" } : Jvm.MethodName)) ∈ md_Ts := mw_2 163 rfl rfl
theorem tw_404 : (Jvm.Cond.code ({ cls := "TaskCores", name := "makeReady", desc := "(LTaskCores$Task;)V" } : Jvm.MethodName) prog_1_method_47_code (2 : Nat) (Option.none : Option Jvm.ClassFile.FieldType)) ∈ md_Ts := mw_2 164 rfl rfl
theorem tw_405 : (Jvm.Cond.methodLink "TaskCores" (319 : Nat) ({ cls := "TaskCores", name := "tellCode", desc := "(ILTaskCores$Task;)V" } : Jvm.MethodName)) ∈ md_Ts := mw_2 165 rfl rfl
theorem tw_407 : (Jvm.Cond.instanceMethod ({ cls := "TaskCores", name := "tellCode", desc := "(ILTaskCores$Task;)V" } : Jvm.MethodName)) ∈ md_Ts := mw_2 167 rfl rfl
theorem tw_408 : (Jvm.Cond.code ({ cls := "TaskCores", name := "tellCode", desc := "(ILTaskCores$Task;)V" } : Jvm.MethodName) prog_1_method_48_code (3 : Nat) (Option.none : Option Jvm.ClassFile.FieldType)) ∈ md_Ts := mw_2 168 rfl rfl
theorem tw_409 : (Jvm.Cond.methodLink "TaskCores" (372 : Nat) ({ cls := "TaskCores$Log", name := "add", desc := "(III)V" } : Jvm.MethodName)) ∈ md_Ts := mw_2 169 rfl rfl
theorem tw_410 : (Jvm.Cond.instanceMethod ({ cls := "TaskCores$Log", name := "add", desc := "(III)V" } : Jvm.MethodName)) ∈ md_Ts := mw_2 170 rfl rfl
theorem tw_411 : (Jvm.Cond.selects "TaskCores$Log" ({ cls := "TaskCores$Log", name := "add", desc := "(III)V" } : Jvm.MethodName) ({ cls := "TaskCores$Log", name := "add", desc := "(III)V" } : Jvm.MethodName)) ∈ md_Ts := mw_2 171 rfl rfl
theorem tw_412 : (Jvm.Cond.code ({ cls := "TaskCores$Log", name := "add", desc := "(III)V" } : Jvm.MethodName) prog_6_method_2_code (6 : Nat) (Option.none : Option Jvm.ClassFile.FieldType)) ∈ md_Ts := mw_2 172 rfl rfl
theorem tw_413 : (Jvm.Cond.methodLink "TaskCores" (147 : Nat) ({ cls := "TaskCores", name := "takeSteps", desc := "()V" } : Jvm.MethodName)) ∈ md_Ts := mw_2 173 rfl rfl
theorem tw_415 : (Jvm.Cond.instanceMethod ({ cls := "TaskCores", name := "takeSteps", desc := "()V" } : Jvm.MethodName)) ∈ md_Ts := mw_2 175 rfl rfl
theorem tw_416 : (Jvm.Cond.code ({ cls := "TaskCores", name := "takeSteps", desc := "()V" } : Jvm.MethodName) prog_1_method_26_code (9 : Nat) (Option.none : Option Jvm.ClassFile.FieldType)) ∈ md_Ts := mw_2 176 rfl rfl
theorem tw_417 : (Jvm.Cond.methodLink "TaskCores" (234 : Nat) ({ cls := "TaskCores", name := "taskWithStep", desc := "(LTaskCores$Core;)LTaskCores$Task;" } : Jvm.MethodName)) ∈ md_Ts := mw_2 177 rfl rfl
theorem tw_419 : (Jvm.Cond.instanceMethod ({ cls := "TaskCores", name := "taskWithStep", desc := "(LTaskCores$Core;)LTaskCores$Task;" } : Jvm.MethodName)) ∈ md_Ts := mw_2 179 rfl rfl
theorem tw_420 : (Jvm.Cond.code ({ cls := "TaskCores", name := "taskWithStep", desc := "(LTaskCores$Core;)LTaskCores$Task;" } : Jvm.MethodName) prog_1_method_27_code (5 : Nat) (Option.some (Jvm.ClassFile.FieldType.object "TaskCores$Task"))) ∈ md_Ts := mw_2 180 rfl rfl
theorem tw_421 : (Jvm.Cond.methodLink "TaskCores" (241 : Nat) ({ cls := "TaskCores$Interrupts", name := "atHand", desc := "(I)LTaskCores$Interrupt;" } : Jvm.MethodName)) ∈ md_Ts := mw_2 181 rfl rfl
theorem tw_422 : (Jvm.Cond.instanceMethod ({ cls := "TaskCores$Interrupts", name := "atHand", desc := "(I)LTaskCores$Interrupt;" } : Jvm.MethodName)) ∈ md_Ts := mw_2 182 rfl rfl
theorem tw_423 : (Jvm.Cond.selects "TaskCores$Interrupts" ({ cls := "TaskCores$Interrupts", name := "atHand", desc := "(I)LTaskCores$Interrupt;" } : Jvm.MethodName) ({ cls := "TaskCores$Interrupts", name := "atHand", desc := "(I)LTaskCores$Interrupt;" } : Jvm.MethodName)) ∈ md_Ts := mw_2 183 rfl rfl
theorem tw_424 : (Jvm.Cond.code ({ cls := "TaskCores$Interrupts", name := "atHand", desc := "(I)LTaskCores$Interrupt;" } : Jvm.MethodName) prog_4_method_3_code (3 : Nat) (Option.some (Jvm.ClassFile.FieldType.object "TaskCores$Interrupt"))) ∈ md_Ts := mw_2 184 rfl rfl
theorem tw_425 : (Jvm.Cond.methodLink "TaskCores" (153 : Nat) ({ cls := "TaskCores", name := "choose", desc := "(LTaskCores$Core;)V" } : Jvm.MethodName)) ∈ md_Ts := mw_2 185 rfl rfl
theorem tw_427 : (Jvm.Cond.instanceMethod ({ cls := "TaskCores", name := "choose", desc := "(LTaskCores$Core;)V" } : Jvm.MethodName)) ∈ md_Ts := mw_2 187 rfl rfl
theorem tw_428 : (Jvm.Cond.code ({ cls := "TaskCores", name := "choose", desc := "(LTaskCores$Core;)V" } : Jvm.MethodName) prog_1_method_28_code (5 : Nat) (Option.none : Option Jvm.ClassFile.FieldType)) ∈ md_Ts := mw_2 188 rfl rfl
theorem tw_429 : (Jvm.Cond.methodLink "TaskCores" (268 : Nat) ({ cls := "TaskCores$Task", name := "comesBefore", desc := "(LTaskCores$Task;)Z" } : Jvm.MethodName)) ∈ md_Ts := mw_2 189 rfl rfl
theorem tw_430 : (Jvm.Cond.instanceMethod ({ cls := "TaskCores$Task", name := "comesBefore", desc := "(LTaskCores$Task;)Z" } : Jvm.MethodName)) ∈ md_Ts := mw_2 190 rfl rfl
theorem tw_431 : (Jvm.Cond.selects "TaskCores$Task" ({ cls := "TaskCores$Task", name := "comesBefore", desc := "(LTaskCores$Task;)Z" } : Jvm.MethodName) ({ cls := "TaskCores$Task", name := "comesBefore", desc := "(LTaskCores$Task;)Z" } : Jvm.MethodName)) ∈ md_Ts := mw_2 191 rfl rfl
theorem tw_432 : (Jvm.Cond.code ({ cls := "TaskCores$Task", name := "comesBefore", desc := "(LTaskCores$Task;)Z" } : Jvm.MethodName) prog_9_method_5_code (4 : Nat) (Option.some Jvm.ClassFile.FieldType.boolean)) ∈ md_Ts := mw_2 192 rfl rfl
theorem tw_433 : (Jvm.Cond.methodLink "TaskCores$Task" (65 : Nat) ({ cls := "TaskCores$Task", name := "height", desc := "()I" } : Jvm.MethodName)) ∈ md_Ts := mw_2 193 rfl rfl
theorem tw_434 : (Jvm.Cond.instanceMethod ({ cls := "TaskCores$Task", name := "height", desc := "()I" } : Jvm.MethodName)) ∈ md_Ts := mw_2 194 rfl rfl
theorem tw_435 : (Jvm.Cond.selects "TaskCores$Task" ({ cls := "TaskCores$Task", name := "height", desc := "()I" } : Jvm.MethodName) ({ cls := "TaskCores$Task", name := "height", desc := "()I" } : Jvm.MethodName)) ∈ md_Ts := mw_2 195 rfl rfl
theorem tw_436 : (Jvm.Cond.code ({ cls := "TaskCores$Task", name := "height", desc := "()I" } : Jvm.MethodName) prog_9_method_4_code (3 : Nat) (Option.some Jvm.ClassFile.FieldType.int)) ∈ md_Ts := mw_2 196 rfl rfl
theorem tw_437 : (Jvm.Cond.methodLink "TaskCores$Task" (56 : Nat) ({ cls := "java/lang/Math", name := "max", desc := "(II)I" } : Jvm.MethodName)) ∈ md_Ts := mw_2 197 rfl rfl
theorem tw_438 : (Jvm.Cond.methodLink "TaskCores" (189 : Nat) ({ cls := "TaskCores", name := "lockOf", desc := "(I)LTaskCores$Lock;" } : Jvm.MethodName)) ∈ md_Ts := mw_2 198 rfl rfl
theorem tw_440 : (Jvm.Cond.instanceMethod ({ cls := "TaskCores", name := "lockOf", desc := "(I)LTaskCores$Lock;" } : Jvm.MethodName)) ∈ md_Ts := mw_2 200 rfl rfl
theorem tw_441 : (Jvm.Cond.code ({ cls := "TaskCores", name := "lockOf", desc := "(I)LTaskCores$Lock;" } : Jvm.MethodName) prog_1_method_21_code (2 : Nat) (Option.some (Jvm.ClassFile.FieldType.object "TaskCores$Lock"))) ∈ md_Ts := mw_2 201 rfl rfl
theorem tw_442 : (Jvm.Cond.methodLink "TaskCores" (258 : Nat) ({ cls := "TaskCores", name := "startsToSpin", desc := "(LTaskCores$Task;LTaskCores$Lock;)Z" } : Jvm.MethodName)) ∈ md_Ts := mw_2 202 rfl rfl
theorem tw_443 : (Jvm.Cond.static ({ cls := "TaskCores", name := "startsToSpin", desc := "(LTaskCores$Task;LTaskCores$Lock;)Z" } : Jvm.MethodName)) ∈ md_Ts := mw_2 203 rfl rfl
theorem tw_444 : (Jvm.Cond.code ({ cls := "TaskCores", name := "startsToSpin", desc := "(LTaskCores$Task;LTaskCores$Lock;)Z" } : Jvm.MethodName) prog_1_method_29_code (2 : Nat) (Option.some Jvm.ClassFile.FieldType.boolean)) ∈ md_Ts := mw_2 204 rfl rfl
theorem tw_445 : (Jvm.Cond.methodLink "TaskCores" (275 : Nat) ({ cls := "TaskCores$Lock", name := "addToQueue", desc := "(LTaskCores$Task;)V" } : Jvm.MethodName)) ∈ md_Ts := mw_2 205 rfl rfl
theorem tw_446 : (Jvm.Cond.instanceMethod ({ cls := "TaskCores$Lock", name := "addToQueue", desc := "(LTaskCores$Task;)V" } : Jvm.MethodName)) ∈ md_Ts := mw_2 206 rfl rfl
theorem tw_447 : (Jvm.Cond.selects "TaskCores$Lock" ({ cls := "TaskCores$Lock", name := "addToQueue", desc := "(LTaskCores$Task;)V" } : Jvm.MethodName) ({ cls := "TaskCores$Lock", name := "addToQueue", desc := "(LTaskCores$Task;)V" } : Jvm.MethodName)) ∈ md_Ts := mw_2 207 rfl rfl
theorem tw_448 : (Jvm.Cond.code ({ cls := "TaskCores$Lock", name := "addToQueue", desc := "(LTaskCores$Task;)V" } : Jvm.MethodName) prog_5_method_2_code (4 : Nat) (Option.none : Option Jvm.ClassFile.FieldType)) ∈ md_Ts := mw_2 208 rfl rfl
theorem tw_449 : (Jvm.Cond.methodLink "TaskCores" (237 : Nat) ({ cls := "TaskCores", name := "doNextPart", desc := "(LTaskCores$Task;)V" } : Jvm.MethodName)) ∈ md_Ts := mw_2 209 rfl rfl
theorem tw_451 : (Jvm.Cond.instanceMethod ({ cls := "TaskCores", name := "doNextPart", desc := "(LTaskCores$Task;)V" } : Jvm.MethodName)) ∈ md_Ts := mw_2 211 rfl rfl
theorem tw_452 : (Jvm.Cond.code ({ cls := "TaskCores", name := "doNextPart", desc := "(LTaskCores$Task;)V" } : Jvm.MethodName) prog_1_method_30_code (4 : Nat) (Option.none : Option Jvm.ClassFile.FieldType)) ∈ md_Ts := mw_2 212 rfl rfl
theorem tw_453 : (Jvm.Cond.methodLink "TaskCores" (278 : Nat) ({ cls := "TaskCores", name := "endTask", desc := "(LTaskCores$Task;)V" } : Jvm.MethodName)) ∈ md_Ts := mw_2 213 rfl rfl
theorem tw_455 : (Jvm.Cond.instanceMethod ({ cls := "TaskCores", name := "endTask", desc := "(LTaskCores$Task;)V" } : Jvm.MethodName)) ∈ md_Ts := mw_2 215 rfl rfl
theorem tw_456 : (Jvm.Cond.code ({ cls := "TaskCores", name := "endTask", desc := "(LTaskCores$Task;)V" } : Jvm.MethodName) prog_1_method_44_code (2 : Nat) (Option.none : Option Jvm.ClassFile.FieldType)) ∈ md_Ts := mw_2 216 rfl rfl
theorem tw_457 : (Jvm.Cond.methodLink "TaskCores" (360 : Nat) ({ cls := "TaskCores", name := "freeAll", desc := "(LTaskCores$Task;)Z" } : Jvm.MethodName)) ∈ md_Ts := mw_2 217 rfl rfl
theorem tw_459 : (Jvm.Cond.instanceMethod ({ cls := "TaskCores", name := "freeAll", desc := "(LTaskCores$Task;)Z" } : Jvm.MethodName)) ∈ md_Ts := mw_2 219 rfl rfl
theorem tw_460 : (Jvm.Cond.code ({ cls := "TaskCores", name := "freeAll", desc := "(LTaskCores$Task;)Z" } : Jvm.MethodName) prog_1_method_45_code (7 : Nat) (Option.some Jvm.ClassFile.FieldType.boolean)) ∈ md_Ts := mw_2 220 rfl rfl
theorem tw_461 : (Jvm.Cond.methodLink "TaskCores" (339 : Nat) ({ cls := "TaskCores$Lock", name := "handOn", desc := "()V" } : Jvm.MethodName)) ∈ md_Ts := mw_2 221 rfl rfl
theorem tw_462 : (Jvm.Cond.instanceMethod ({ cls := "TaskCores$Lock", name := "handOn", desc := "()V" } : Jvm.MethodName)) ∈ md_Ts := mw_2 222 rfl rfl
theorem tw_463 : (Jvm.Cond.selects "TaskCores$Lock" ({ cls := "TaskCores$Lock", name := "handOn", desc := "()V" } : Jvm.MethodName) ({ cls := "TaskCores$Lock", name := "handOn", desc := "()V" } : Jvm.MethodName)) ∈ md_Ts := mw_2 223 rfl rfl
theorem tw_464 : (Jvm.Cond.code ({ cls := "TaskCores$Lock", name := "handOn", desc := "()V" } : Jvm.MethodName) prog_5_method_4_code (2 : Nat) (Option.none : Option Jvm.ClassFile.FieldType)) ∈ md_Ts := mw_2 224 rfl rfl
theorem tw_465 : (Jvm.Cond.methodLink "TaskCores" (283 : Nat) ({ cls := "TaskCores", name := "activateByTask", desc := "(LTaskCores$Task;I)V" } : Jvm.MethodName)) ∈ md_Ts := mw_2 225 rfl rfl
theorem tw_467 : (Jvm.Cond.instanceMethod ({ cls := "TaskCores", name := "activateByTask", desc := "(LTaskCores$Task;I)V" } : Jvm.MethodName)) ∈ md_Ts := mw_2 227 rfl rfl
theorem tw_468 : (Jvm.Cond.code ({ cls := "TaskCores", name := "activateByTask", desc := "(LTaskCores$Task;I)V" } : Jvm.MethodName) prog_1_method_31_code (4 : Nat) (Option.none : Option Jvm.ClassFile.FieldType)) ∈ md_Ts := mw_2 228 rfl rfl
theorem tw_469 : (Jvm.Cond.methodLink "TaskCores" (286 : Nat) ({ cls := "TaskCores", name := "chain", desc := "(LTaskCores$Task;I)V" } : Jvm.MethodName)) ∈ md_Ts := mw_2 229 rfl rfl
theorem tw_471 : (Jvm.Cond.instanceMethod ({ cls := "TaskCores", name := "chain", desc := "(LTaskCores$Task;I)V" } : Jvm.MethodName)) ∈ md_Ts := mw_2 231 rfl rfl
theorem tw_472 : (Jvm.Cond.code ({ cls := "TaskCores", name := "chain", desc := "(LTaskCores$Task;I)V" } : Jvm.MethodName) prog_1_method_32_code (4 : Nat) (Option.none : Option Jvm.ClassFile.FieldType)) ∈ md_Ts := mw_2 232 rfl rfl
theorem tw_473 : (Jvm.Cond.methodLink "TaskCores" (289 : Nat) ({ cls := "TaskCores", name := "waitFor", desc := "(LTaskCores$Task;I)V" } : Jvm.MethodName)) ∈ md_Ts := mw_2 233 rfl rfl
theorem tw_475 : (Jvm.Cond.instanceMethod ({ cls := "TaskCores", name := "waitFor", desc := "(LTaskCores$Task;I)V" } : Jvm.MethodName)) ∈ md_Ts := mw_2 235 rfl rfl
theorem tw_476 : (Jvm.Cond.code ({ cls := "TaskCores", name := "waitFor", desc := "(LTaskCores$Task;I)V" } : Jvm.MethodName) prog_1_method_33_code (3 : Nat) (Option.none : Option Jvm.ClassFile.FieldType)) ∈ md_Ts := mw_2 236 rfl rfl
theorem tw_477 : (Jvm.Cond.constant "TaskCores" (175 : Nat) (65536 : Int32)) ∈ md_Ts := mw_2 237 rfl rfl
theorem tw_478 : (Jvm.Cond.methodLink "TaskCores" (292 : Nat) ({ cls := "TaskCores", name := "setByTask", desc := "(LTaskCores$Task;II)V" } : Jvm.MethodName)) ∈ md_Ts := mw_2 238 rfl rfl
theorem tw_480 : (Jvm.Cond.instanceMethod ({ cls := "TaskCores", name := "setByTask", desc := "(LTaskCores$Task;II)V" } : Jvm.MethodName)) ∈ md_Ts := mw_3 0 rfl rfl
theorem tw_481 : (Jvm.Cond.code ({ cls := "TaskCores", name := "setByTask", desc := "(LTaskCores$Task;II)V" } : Jvm.MethodName) prog_1_method_34_code (5 : Nat) (Option.none : Option Jvm.ClassFile.FieldType)) ∈ md_Ts := mw_3 1 rfl rfl
theorem tw_482 : (Jvm.Cond.methodLink "TaskCores" (176 : Nat) ({ cls := "TaskCores$Task", name := "mayBeSet", desc := "()Z" } : Jvm.MethodName)) ∈ md_Ts := mw_3 2 rfl rfl
theorem tw_483 : (Jvm.Cond.instanceMethod ({ cls := "TaskCores$Task", name := "mayBeSet", desc := "()Z" } : Jvm.MethodName)) ∈ md_Ts := mw_3 3 rfl rfl
theorem tw_484 : (Jvm.Cond.selects "TaskCores$Task" ({ cls := "TaskCores$Task", name := "mayBeSet", desc := "()Z" } : Jvm.MethodName) ({ cls := "TaskCores$Task", name := "mayBeSet", desc := "()Z" } : Jvm.MethodName)) ∈ md_Ts := mw_3 4 rfl rfl
theorem tw_485 : (Jvm.Cond.code ({ cls := "TaskCores$Task", name := "mayBeSet", desc := "()Z" } : Jvm.MethodName) prog_9_method_3_code (1 : Nat) (Option.some Jvm.ClassFile.FieldType.boolean)) ∈ md_Ts := mw_3 5 rfl rfl
theorem tw_486 : (Jvm.Cond.methodLink "TaskCores" (180 : Nat) ({ cls := "TaskCores", name := "setEvents", desc := "(LTaskCores$Task;I)V" } : Jvm.MethodName)) ∈ md_Ts := mw_3 6 rfl rfl
theorem tw_488 : (Jvm.Cond.instanceMethod ({ cls := "TaskCores", name := "setEvents", desc := "(LTaskCores$Task;I)V" } : Jvm.MethodName)) ∈ md_Ts := mw_3 8 rfl rfl
theorem tw_489 : (Jvm.Cond.code ({ cls := "TaskCores", name := "setEvents", desc := "(LTaskCores$Task;I)V" } : Jvm.MethodName) prog_1_method_42_code (3 : Nat) (Option.none : Option Jvm.ClassFile.FieldType)) ∈ md_Ts := mw_3 9 rfl rfl
theorem tw_490 : (Jvm.Cond.methodLink "TaskCores" (296 : Nat) ({ cls := "TaskCores", name := "clearEvents", desc := "(LTaskCores$Task;I)V" } : Jvm.MethodName)) ∈ md_Ts := mw_3 10 rfl rfl
theorem tw_492 : (Jvm.Cond.instanceMethod ({ cls := "TaskCores", name := "clearEvents", desc := "(LTaskCores$Task;I)V" } : Jvm.MethodName)) ∈ md_Ts := mw_3 12 rfl rfl
theorem tw_493 : (Jvm.Cond.code ({ cls := "TaskCores", name := "clearEvents", desc := "(LTaskCores$Task;I)V" } : Jvm.MethodName) prog_1_method_35_code (3 : Nat) (Option.none : Option Jvm.ClassFile.FieldType)) ∈ md_Ts := mw_3 13 rfl rfl
theorem tw_494 : (Jvm.Cond.methodLink "TaskCores" (299 : Nat) ({ cls := "TaskCores", name := "getResource", desc := "(LTaskCores$Task;LTaskCores$Resource;)V" } : Jvm.MethodName)) ∈ md_Ts := mw_3 14 rfl rfl
theorem tw_496 : (Jvm.Cond.instanceMethod ({ cls := "TaskCores", name := "getResource", desc := "(LTaskCores$Task;LTaskCores$Resource;)V" } : Jvm.MethodName)) ∈ md_Ts := mw_3 16 rfl rfl
theorem tw_497 : (Jvm.Cond.code ({ cls := "TaskCores", name := "getResource", desc := "(LTaskCores$Task;LTaskCores$Resource;)V" } : Jvm.MethodName) prog_1_method_36_code (3 : Nat) (Option.none : Option Jvm.ClassFile.FieldType)) ∈ md_Ts := mw_3 17 rfl rfl
theorem tw_498 : (Jvm.Cond.methodLink "TaskCores" (303 : Nat) ({ cls := "TaskCores", name := "freeResource", desc := "(LTaskCores$Task;LTaskCores$Resource;)V" } : Jvm.MethodName)) ∈ md_Ts := mw_3 18 rfl rfl
theorem tw_500 : (Jvm.Cond.instanceMethod ({ cls := "TaskCores", name := "freeResource", desc := "(LTaskCores$Task;LTaskCores$Resource;)V" } : Jvm.MethodName)) ∈ md_Ts := mw_3 20 rfl rfl
theorem tw_501 : (Jvm.Cond.code ({ cls := "TaskCores", name := "freeResource", desc := "(LTaskCores$Task;LTaskCores$Resource;)V" } : Jvm.MethodName) prog_1_method_37_code (3 : Nat) (Option.none : Option Jvm.ClassFile.FieldType)) ∈ md_Ts := mw_3 21 rfl rfl
theorem tw_502 : (Jvm.Cond.methodLink "TaskCores" (306 : Nat) ({ cls := "TaskCores", name := "takeLock", desc := "(LTaskCores$Task;LTaskCores$Lock;)V" } : Jvm.MethodName)) ∈ md_Ts := mw_3 22 rfl rfl
theorem tw_504 : (Jvm.Cond.instanceMethod ({ cls := "TaskCores", name := "takeLock", desc := "(LTaskCores$Task;LTaskCores$Lock;)V" } : Jvm.MethodName)) ∈ md_Ts := mw_3 24 rfl rfl
theorem tw_505 : (Jvm.Cond.code ({ cls := "TaskCores", name := "takeLock", desc := "(LTaskCores$Task;LTaskCores$Lock;)V" } : Jvm.MethodName) prog_1_method_38_code (3 : Nat) (Option.none : Option Jvm.ClassFile.FieldType)) ∈ md_Ts := mw_3 25 rfl rfl
theorem tw_506 : (Jvm.Cond.methodLink "TaskCores" (310 : Nat) ({ cls := "TaskCores", name := "unlock", desc := "(LTaskCores$Task;LTaskCores$Lock;)V" } : Jvm.MethodName)) ∈ md_Ts := mw_3 26 rfl rfl
theorem tw_508 : (Jvm.Cond.instanceMethod ({ cls := "TaskCores", name := "unlock", desc := "(LTaskCores$Task;LTaskCores$Lock;)V" } : Jvm.MethodName)) ∈ md_Ts := mw_3 28 rfl rfl
theorem tw_509 : (Jvm.Cond.code ({ cls := "TaskCores", name := "unlock", desc := "(LTaskCores$Task;LTaskCores$Lock;)V" } : Jvm.MethodName) prog_1_method_39_code (3 : Nat) (Option.none : Option Jvm.ClassFile.FieldType)) ∈ md_Ts := mw_3 29 rfl rfl
theorem tw_510 : (Jvm.Cond.methodLink "TaskCores" (313 : Nat) ({ cls := "TaskCores", name := "putOff", desc := "(LTaskCores$Task;I)V" } : Jvm.MethodName)) ∈ md_Ts := mw_3 30 rfl rfl
theorem tw_512 : (Jvm.Cond.instanceMethod ({ cls := "TaskCores", name := "putOff", desc := "(LTaskCores$Task;I)V" } : Jvm.MethodName)) ∈ md_Ts := mw_3 32 rfl rfl
theorem tw_513 : (Jvm.Cond.code ({ cls := "TaskCores", name := "putOff", desc := "(LTaskCores$Task;I)V" } : Jvm.MethodName) prog_1_method_40_code (3 : Nat) (Option.none : Option Jvm.ClassFile.FieldType)) ∈ md_Ts := mw_3 33 rfl rfl
theorem tw_514 : (Jvm.Cond.methodLink "TaskCores" (316 : Nat) ({ cls := "TaskCores", name := "putOn", desc := "(LTaskCores$Task;)V" } : Jvm.MethodName)) ∈ md_Ts := mw_3 34 rfl rfl
theorem tw_516 : (Jvm.Cond.instanceMethod ({ cls := "TaskCores", name := "putOn", desc := "(LTaskCores$Task;)V" } : Jvm.MethodName)) ∈ md_Ts := mw_3 36 rfl rfl
theorem tw_517 : (Jvm.Cond.code ({ cls := "TaskCores", name := "putOn", desc := "(LTaskCores$Task;)V" } : Jvm.MethodName) prog_1_method_41_code (2 : Nat) (Option.none : Option Jvm.ClassFile.FieldType)) ∈ md_Ts := mw_3 37 rfl rfl
theorem tw_518 : (Jvm.Cond.methodLink "TaskCores" (150 : Nat) ({ cls := "TaskCores", name := "tellIfOffTooLong", desc := "()V" } : Jvm.MethodName)) ∈ md_Ts := mw_3 38 rfl rfl
theorem tw_520 : (Jvm.Cond.instanceMethod ({ cls := "TaskCores", name := "tellIfOffTooLong", desc := "()V" } : Jvm.MethodName)) ∈ md_Ts := mw_3 40 rfl rfl
theorem tw_521 : (Jvm.Cond.code ({ cls := "TaskCores", name := "tellIfOffTooLong", desc := "()V" } : Jvm.MethodName) prog_1_method_49_code (2 : Nat) (Option.none : Option Jvm.ClassFile.FieldType)) ∈ md_Ts := mw_3 41 rfl rfl
theorem tw_522 : (Jvm.Cond.methodLink "TaskCores" (157 : Nat) ({ cls := "TaskCores", name := "quietMicroseconds", desc := "(I)I" } : Jvm.MethodName)) ∈ md_Ts := mw_3 42 rfl rfl
theorem tw_524 : (Jvm.Cond.instanceMethod ({ cls := "TaskCores", name := "quietMicroseconds", desc := "(I)I" } : Jvm.MethodName)) ∈ md_Ts := mw_3 44 rfl rfl
theorem tw_525 : (Jvm.Cond.code ({ cls := "TaskCores", name := "quietMicroseconds", desc := "(I)I" } : Jvm.MethodName) prog_1_method_50_code (9 : Nat) (Option.some Jvm.ClassFile.FieldType.int)) ∈ md_Ts := mw_3 45 rfl rfl
theorem tw_526 : (Jvm.Cond.methodLink "TaskCores" (374 : Nat) ({ cls := "TaskCores$Interrupts", name := "nextChange", desc := "(I)I" } : Jvm.MethodName)) ∈ md_Ts := mw_3 46 rfl rfl
theorem tw_527 : (Jvm.Cond.instanceMethod ({ cls := "TaskCores$Interrupts", name := "nextChange", desc := "(I)I" } : Jvm.MethodName)) ∈ md_Ts := mw_3 47 rfl rfl
theorem tw_528 : (Jvm.Cond.selects "TaskCores$Interrupts" ({ cls := "TaskCores$Interrupts", name := "nextChange", desc := "(I)I" } : Jvm.MethodName) ({ cls := "TaskCores$Interrupts", name := "nextChange", desc := "(I)I" } : Jvm.MethodName)) ∈ md_Ts := mw_3 48 rfl rfl
theorem tw_529 : (Jvm.Cond.code ({ cls := "TaskCores$Interrupts", name := "nextChange", desc := "(I)I" } : Jvm.MethodName) prog_4_method_4_code (4 : Nat) (Option.some Jvm.ClassFile.FieldType.int)) ∈ md_Ts := mw_3 49 rfl rfl
theorem tw_530 : (Jvm.Cond.constant "TaskCores$Interrupts" (37 : Nat) (1000000 : Int32)) ∈ md_Ts := mw_3 50 rfl rfl
theorem tw_531 : (Jvm.Cond.methodLink "TaskCores$Interrupts" (38 : Nat) ({ cls := "java/lang/Math", name := "min", desc := "(II)I" } : Jvm.MethodName)) ∈ md_Ts := mw_3 51 rfl rfl
theorem tw_532 : (Jvm.Cond.static ({ cls := "java/lang/Math", name := "min", desc := "(II)I" } : Jvm.MethodName)) ∈ md_Ts := mw_3 52 rfl rfl
theorem tw_533 : (Jvm.Cond.code ({ cls := "java/lang/Math", name := "min", desc := "(II)I" } : Jvm.MethodName) prog_13_method_69_code (2 : Nat) (Option.some Jvm.ClassFile.FieldType.int)) ∈ md_Ts := mw_3 53 rfl rfl
theorem tw_534 : (Jvm.Cond.methodLink "TaskCores" (377 : Nat) ({ cls := "java/lang/Math", name := "min", desc := "(II)I" } : Jvm.MethodName)) ∈ md_Ts := mw_3 54 rfl rfl
theorem tw_535 : (Jvm.Cond.methodLink "TaskCores" (383 : Nat) ({ cls := "TaskCores$Task", name := "leftOfPart", desc := "()I" } : Jvm.MethodName)) ∈ md_Ts := mw_3 55 rfl rfl
theorem tw_536 : (Jvm.Cond.instanceMethod ({ cls := "TaskCores$Task", name := "leftOfPart", desc := "()I" } : Jvm.MethodName)) ∈ md_Ts := mw_3 56 rfl rfl
theorem tw_537 : (Jvm.Cond.selects "TaskCores$Task" ({ cls := "TaskCores$Task", name := "leftOfPart", desc := "()I" } : Jvm.MethodName) ({ cls := "TaskCores$Task", name := "leftOfPart", desc := "()I" } : Jvm.MethodName)) ∈ md_Ts := mw_3 57 rfl rfl
theorem tw_538 : (Jvm.Cond.code ({ cls := "TaskCores$Task", name := "leftOfPart", desc := "()I" } : Jvm.MethodName) prog_9_method_6_code (1 : Nat) (Option.some Jvm.ClassFile.FieldType.int)) ∈ md_Ts := mw_3 58 rfl rfl
theorem tw_539 : (Jvm.Cond.constant "TaskCores$Task" (84 : Nat) (1000000 : Int32)) ∈ md_Ts := mw_3 59 rfl rfl
theorem tw_540 : (Jvm.Cond.methodLink "TaskCores" (161 : Nat) ({ cls := "TaskCores", name := "passMicroseconds", desc := "(I)I" } : Jvm.MethodName)) ∈ md_Ts := mw_3 60 rfl rfl
theorem tw_542 : (Jvm.Cond.instanceMethod ({ cls := "TaskCores", name := "passMicroseconds", desc := "(I)I" } : Jvm.MethodName)) ∈ md_Ts := mw_3 62 rfl rfl
theorem tw_543 : (Jvm.Cond.code ({ cls := "TaskCores", name := "passMicroseconds", desc := "(I)I" } : Jvm.MethodName) prog_1_method_51_code (10 : Nat) (Option.some Jvm.ClassFile.FieldType.int)) ∈ md_Ts := mw_3 63 rfl rfl
theorem tw_544 : (Jvm.Cond.methodLink "TaskCores" (390 : Nat) ({ cls := "TaskCores$Task", name := "spend", desc := "(I)V" } : Jvm.MethodName)) ∈ md_Ts := mw_3 64 rfl rfl
theorem tw_545 : (Jvm.Cond.instanceMethod ({ cls := "TaskCores$Task", name := "spend", desc := "(I)V" } : Jvm.MethodName)) ∈ md_Ts := mw_3 65 rfl rfl
theorem tw_546 : (Jvm.Cond.selects "TaskCores$Task" ({ cls := "TaskCores$Task", name := "spend", desc := "(I)V" } : Jvm.MethodName) ({ cls := "TaskCores$Task", name := "spend", desc := "(I)V" } : Jvm.MethodName)) ∈ md_Ts := mw_3 66 rfl rfl
theorem tw_547 : (Jvm.Cond.code ({ cls := "TaskCores$Task", name := "spend", desc := "(I)V" } : Jvm.MethodName) prog_9_method_7_code (2 : Nat) (Option.none : Option Jvm.ClassFile.FieldType)) ∈ md_Ts := mw_3 67 rfl rfl
theorem tw_548 : (Jvm.Cond.methodLink "TaskCores" (396 : Nat) ({ cls := "TaskCores$Core", name := "noteWho", desc := "(II)V" } : Jvm.MethodName)) ∈ md_Ts := mw_3 68 rfl rfl
theorem tw_549 : (Jvm.Cond.instanceMethod ({ cls := "TaskCores$Core", name := "noteWho", desc := "(II)V" } : Jvm.MethodName)) ∈ md_Ts := mw_3 69 rfl rfl
theorem tw_550 : (Jvm.Cond.selects "TaskCores$Core" ({ cls := "TaskCores$Core", name := "noteWho", desc := "(II)V" } : Jvm.MethodName) ({ cls := "TaskCores$Core", name := "noteWho", desc := "(II)V" } : Jvm.MethodName)) ∈ md_Ts := mw_3 70 rfl rfl
theorem tw_551 : (Jvm.Cond.code ({ cls := "TaskCores$Core", name := "noteWho", desc := "(II)V" } : Jvm.MethodName) prog_2_method_3_code (3 : Nat) (Option.none : Option Jvm.ClassFile.FieldType)) ∈ md_Ts := mw_3 71 rfl rfl
theorem tw_552 : (Jvm.Cond.methodLink "TaskCores$Core" (40 : Nat) ({ cls := "TaskCores$Log", name := "add", desc := "(III)V" } : Jvm.MethodName)) ∈ md_Ts := mw_3 72 rfl rfl
theorem tw_553 : (Jvm.Cond.methodLink "TaskCores" (399 : Nat) ({ cls := "TaskCores$Interrupts", name := "serve", desc := "(LTaskCores$Interrupt;I)V" } : Jvm.MethodName)) ∈ md_Ts := mw_3 73 rfl rfl
theorem tw_554 : (Jvm.Cond.instanceMethod ({ cls := "TaskCores$Interrupts", name := "serve", desc := "(LTaskCores$Interrupt;I)V" } : Jvm.MethodName)) ∈ md_Ts := mw_3 74 rfl rfl
theorem tw_555 : (Jvm.Cond.selects "TaskCores$Interrupts" ({ cls := "TaskCores$Interrupts", name := "serve", desc := "(LTaskCores$Interrupt;I)V" } : Jvm.MethodName) ({ cls := "TaskCores$Interrupts", name := "serve", desc := "(LTaskCores$Interrupt;I)V" } : Jvm.MethodName)) ∈ md_Ts := mw_3 75 rfl rfl
theorem tw_556 : (Jvm.Cond.code ({ cls := "TaskCores$Interrupts", name := "serve", desc := "(LTaskCores$Interrupt;I)V" } : Jvm.MethodName) prog_4_method_5_code (4 : Nat) (Option.none : Option Jvm.ClassFile.FieldType)) ∈ md_Ts := mw_3 76 rfl rfl
theorem tw_557 : (Jvm.Cond.arrayClass Jvm.ClassFile.FieldType.long) ∈ md_Ts := mw_3 77 rfl rfl
theorem tw_558 : (Jvm.Cond.methodLink "TaskCoresLaw" (53 : Nat) ({ cls := "TaskCores", name := "now", desc := "()J" } : Jvm.MethodName)) ∈ md_Ts := mw_3 78 rfl rfl
theorem tw_559 : (Jvm.Cond.instanceMethod ({ cls := "TaskCores", name := "now", desc := "()J" } : Jvm.MethodName)) ∈ md_Ts := mw_3 79 rfl rfl
theorem tw_560 : (Jvm.Cond.selects "TaskCores" ({ cls := "TaskCores", name := "now", desc := "()J" } : Jvm.MethodName) ({ cls := "TaskCores", name := "now", desc := "()J" } : Jvm.MethodName)) ∈ md_Ts := mw_3 80 rfl rfl
theorem tw_561 : (Jvm.Cond.code ({ cls := "TaskCores", name := "now", desc := "()J" } : Jvm.MethodName) prog_1_method_8_code (1 : Nat) (Option.some Jvm.ClassFile.FieldType.long)) ∈ md_Ts := mw_3 81 rfl rfl
theorem tw_562 : (Jvm.Cond.methodLink "TaskCoresLaw" (58 : Nat) ({ cls := "TaskCores", name := "running", desc := "(IJ)I" } : Jvm.MethodName)) ∈ md_Ts := mw_3 82 rfl rfl
theorem tw_563 : (Jvm.Cond.instanceMethod ({ cls := "TaskCores", name := "running", desc := "(IJ)I" } : Jvm.MethodName)) ∈ md_Ts := mw_3 83 rfl rfl
theorem tw_564 : (Jvm.Cond.selects "TaskCores" ({ cls := "TaskCores", name := "running", desc := "(IJ)I" } : Jvm.MethodName) ({ cls := "TaskCores", name := "running", desc := "(IJ)I" } : Jvm.MethodName)) ∈ md_Ts := mw_3 84 rfl rfl
theorem tw_565 : (Jvm.Cond.code ({ cls := "TaskCores", name := "running", desc := "(IJ)I" } : Jvm.MethodName) prog_1_method_9_code (5 : Nat) (Option.some Jvm.ClassFile.FieldType.int)) ∈ md_Ts := mw_3 85 rfl rfl
theorem tw_566 : (Jvm.Cond.methodLink "TaskCores" (164 : Nat) ({ cls := "TaskCores$Core", name := "whoAt", desc := "(I)I" } : Jvm.MethodName)) ∈ md_Ts := mw_3 86 rfl rfl
theorem tw_567 : (Jvm.Cond.instanceMethod ({ cls := "TaskCores$Core", name := "whoAt", desc := "(I)I" } : Jvm.MethodName)) ∈ md_Ts := mw_3 87 rfl rfl
theorem tw_568 : (Jvm.Cond.selects "TaskCores$Core" ({ cls := "TaskCores$Core", name := "whoAt", desc := "(I)I" } : Jvm.MethodName) ({ cls := "TaskCores$Core", name := "whoAt", desc := "(I)I" } : Jvm.MethodName)) ∈ md_Ts := mw_3 88 rfl rfl
theorem tw_569 : (Jvm.Cond.code ({ cls := "TaskCores$Core", name := "whoAt", desc := "(I)I" } : Jvm.MethodName) prog_2_method_4_code (6 : Nat) (Option.some Jvm.ClassFile.FieldType.int)) ∈ md_Ts := mw_3 89 rfl rfl
theorem tw_570 : (Jvm.Cond.methodLink "TaskCores$Core" (47 : Nat) ({ cls := "TaskCores$Log", name := "answer", desc := "(II)I" } : Jvm.MethodName)) ∈ md_Ts := mw_3 90 rfl rfl
theorem tw_571 : (Jvm.Cond.instanceMethod ({ cls := "TaskCores$Log", name := "answer", desc := "(II)I" } : Jvm.MethodName)) ∈ md_Ts := mw_3 91 rfl rfl
theorem tw_572 : (Jvm.Cond.selects "TaskCores$Log" ({ cls := "TaskCores$Log", name := "answer", desc := "(II)I" } : Jvm.MethodName) ({ cls := "TaskCores$Log", name := "answer", desc := "(II)I" } : Jvm.MethodName)) ∈ md_Ts := mw_3 92 rfl rfl
theorem tw_573 : (Jvm.Cond.code ({ cls := "TaskCores$Log", name := "answer", desc := "(II)I" } : Jvm.MethodName) prog_6_method_3_code (4 : Nat) (Option.some Jvm.ClassFile.FieldType.int)) ∈ md_Ts := mw_3 93 rfl rfl
theorem tw_574 : (Jvm.Cond.constantLong "TaskCores$Log" (30 : Nat) (1048575 : Int64)) ∈ md_Ts := mw_3 94 rfl rfl
theorem tw_575 : (Jvm.Cond.methodLink "TaskCoresLaw" (62 : Nat) ({ cls := "TaskCores", name := "used", desc := "(I)J" } : Jvm.MethodName)) ∈ md_Ts := mw_3 95 rfl rfl
theorem tw_576 : (Jvm.Cond.instanceMethod ({ cls := "TaskCores", name := "used", desc := "(I)J" } : Jvm.MethodName)) ∈ md_Ts := mw_3 96 rfl rfl
theorem tw_577 : (Jvm.Cond.selects "TaskCores" ({ cls := "TaskCores", name := "used", desc := "(I)J" } : Jvm.MethodName) ({ cls := "TaskCores", name := "used", desc := "(I)J" } : Jvm.MethodName)) ∈ md_Ts := mw_3 97 rfl rfl
theorem tw_578 : (Jvm.Cond.code ({ cls := "TaskCores", name := "used", desc := "(I)J" } : Jvm.MethodName) prog_1_method_10_code (3 : Nat) (Option.some Jvm.ClassFile.FieldType.long)) ∈ md_Ts := mw_3 98 rfl rfl
theorem tw_579 : (Jvm.Cond.constantLong "TaskCores" (167 : Nat) (-1 : Int64)) ∈ md_Ts := mw_3 99 rfl rfl
theorem tw_580 : (Jvm.Cond.methodLink "TaskCoresLaw" (67 : Nat) ({ cls := "TaskCores", name := "state", desc := "(I)I" } : Jvm.MethodName)) ∈ md_Ts := mw_3 100 rfl rfl
theorem tw_581 : (Jvm.Cond.instanceMethod ({ cls := "TaskCores", name := "state", desc := "(I)I" } : Jvm.MethodName)) ∈ md_Ts := mw_3 101 rfl rfl
theorem tw_582 : (Jvm.Cond.selects "TaskCores" ({ cls := "TaskCores", name := "state", desc := "(I)I" } : Jvm.MethodName) ({ cls := "TaskCores", name := "state", desc := "(I)I" } : Jvm.MethodName)) ∈ md_Ts := mw_3 102 rfl rfl
theorem tw_583 : (Jvm.Cond.code ({ cls := "TaskCores", name := "state", desc := "(I)I" } : Jvm.MethodName) prog_1_method_11_code (3 : Nat) (Option.some Jvm.ClassFile.FieldType.int)) ∈ md_Ts := mw_3 103 rfl rfl
theorem tw_584 : (Jvm.Cond.methodLink "TaskCoresLaw" (72 : Nat) ({ cls := "TaskCores", name := "event", desc := "(II)I" } : Jvm.MethodName)) ∈ md_Ts := mw_3 104 rfl rfl
theorem tw_585 : (Jvm.Cond.instanceMethod ({ cls := "TaskCores", name := "event", desc := "(II)I" } : Jvm.MethodName)) ∈ md_Ts := mw_3 105 rfl rfl
theorem tw_586 : (Jvm.Cond.selects "TaskCores" ({ cls := "TaskCores", name := "event", desc := "(II)I" } : Jvm.MethodName) ({ cls := "TaskCores", name := "event", desc := "(II)I" } : Jvm.MethodName)) ∈ md_Ts := mw_3 106 rfl rfl
theorem tw_587 : (Jvm.Cond.code ({ cls := "TaskCores", name := "event", desc := "(II)I" } : Jvm.MethodName) prog_1_method_12_code (4 : Nat) (Option.some Jvm.ClassFile.FieldType.int)) ∈ md_Ts := mw_3 107 rfl rfl
theorem tw_588 : (Jvm.Cond.methodLink "TaskCoresLaw" (77 : Nat) ({ cls := "TaskCores", name := "events", desc := "(I)I" } : Jvm.MethodName)) ∈ md_Ts := mw_3 108 rfl rfl
theorem tw_589 : (Jvm.Cond.instanceMethod ({ cls := "TaskCores", name := "events", desc := "(I)I" } : Jvm.MethodName)) ∈ md_Ts := mw_3 109 rfl rfl
theorem tw_590 : (Jvm.Cond.selects "TaskCores" ({ cls := "TaskCores", name := "events", desc := "(I)I" } : Jvm.MethodName) ({ cls := "TaskCores", name := "events", desc := "(I)I" } : Jvm.MethodName)) ∈ md_Ts := mw_3 110 rfl rfl
theorem tw_591 : (Jvm.Cond.code ({ cls := "TaskCores", name := "events", desc := "(I)I" } : Jvm.MethodName) prog_1_method_13_code (3 : Nat) (Option.some Jvm.ClassFile.FieldType.int)) ∈ md_Ts := mw_3 111 rfl rfl
theorem tw_592 : (Jvm.Cond.methodLink "TaskCoresLaw" (81 : Nat) ({ cls := "TaskCores", name := "code", desc := "(II)I" } : Jvm.MethodName)) ∈ md_Ts := mw_3 112 rfl rfl
theorem tw_593 : (Jvm.Cond.instanceMethod ({ cls := "TaskCores", name := "code", desc := "(II)I" } : Jvm.MethodName)) ∈ md_Ts := mw_3 113 rfl rfl
theorem tw_594 : (Jvm.Cond.selects "TaskCores" ({ cls := "TaskCores", name := "code", desc := "(II)I" } : Jvm.MethodName) ({ cls := "TaskCores", name := "code", desc := "(II)I" } : Jvm.MethodName)) ∈ md_Ts := mw_3 114 rfl rfl
theorem tw_595 : (Jvm.Cond.code ({ cls := "TaskCores", name := "code", desc := "(II)I" } : Jvm.MethodName) prog_1_method_14_code (3 : Nat) (Option.some Jvm.ClassFile.FieldType.int)) ∈ md_Ts := mw_3 115 rfl rfl
theorem tw_596 : (Jvm.Cond.methodLink "TaskCores" (186 : Nat) ({ cls := "TaskCores$Log", name := "answer", desc := "(II)I" } : Jvm.MethodName)) ∈ md_Ts := mw_3 116 rfl rfl
theorem tw_597 : (Jvm.Cond.methodLink "TaskCoresLaw" (85 : Nat) ({ cls := "TaskCores", name := "order", desc := "(II)I" } : Jvm.MethodName)) ∈ md_Ts := mw_3 117 rfl rfl
theorem tw_598 : (Jvm.Cond.instanceMethod ({ cls := "TaskCores", name := "order", desc := "(II)I" } : Jvm.MethodName)) ∈ md_Ts := mw_3 118 rfl rfl
theorem tw_599 : (Jvm.Cond.selects "TaskCores" ({ cls := "TaskCores", name := "order", desc := "(II)I" } : Jvm.MethodName) ({ cls := "TaskCores", name := "order", desc := "(II)I" } : Jvm.MethodName)) ∈ md_Ts := mw_3 119 rfl rfl
theorem tw_600 : (Jvm.Cond.code ({ cls := "TaskCores", name := "order", desc := "(II)I" } : Jvm.MethodName) prog_1_method_15_code (3 : Nat) (Option.some Jvm.ClassFile.FieldType.int)) ∈ md_Ts := mw_3 120 rfl rfl
theorem tw_601 : (Jvm.Cond.methodLink "TaskCoresLaw" (89 : Nat) ({ cls := "TaskCores", name := "spin", desc := "(II)I" } : Jvm.MethodName)) ∈ md_Ts := mw_3 121 rfl rfl
theorem tw_602 : (Jvm.Cond.instanceMethod ({ cls := "TaskCores", name := "spin", desc := "(II)I" } : Jvm.MethodName)) ∈ md_Ts := mw_3 122 rfl rfl
theorem tw_603 : (Jvm.Cond.selects "TaskCores" ({ cls := "TaskCores", name := "spin", desc := "(II)I" } : Jvm.MethodName) ({ cls := "TaskCores", name := "spin", desc := "(II)I" } : Jvm.MethodName)) ∈ md_Ts := mw_3 123 rfl rfl
theorem tw_604 : (Jvm.Cond.code ({ cls := "TaskCores", name := "spin", desc := "(II)I" } : Jvm.MethodName) prog_1_method_16_code (6 : Nat) (Option.some Jvm.ClassFile.FieldType.int)) ∈ md_Ts := mw_3 124 rfl rfl
theorem tw_605 : (Jvm.Cond.methodLink "TaskCores" (204 : Nat) ({ cls := "TaskCores$Lock", name := "firstInQueueOf", desc := "(LTaskCores$Core;)LTaskCores$Task;" } : Jvm.MethodName)) ∈ md_Ts := mw_3 125 rfl rfl
theorem tw_606 : (Jvm.Cond.instanceMethod ({ cls := "TaskCores$Lock", name := "firstInQueueOf", desc := "(LTaskCores$Core;)LTaskCores$Task;" } : Jvm.MethodName)) ∈ md_Ts := mw_3 126 rfl rfl
theorem tw_607 : (Jvm.Cond.selects "TaskCores$Lock" ({ cls := "TaskCores$Lock", name := "firstInQueueOf", desc := "(LTaskCores$Core;)LTaskCores$Task;" } : Jvm.MethodName) ({ cls := "TaskCores$Lock", name := "firstInQueueOf", desc := "(LTaskCores$Core;)LTaskCores$Task;" } : Jvm.MethodName)) ∈ md_Ts := mw_3 127 rfl rfl
theorem tw_608 : (Jvm.Cond.code ({ cls := "TaskCores$Lock", name := "firstInQueueOf", desc := "(LTaskCores$Core;)LTaskCores$Task;" } : Jvm.MethodName) prog_5_method_3_code (3 : Nat) (Option.some (Jvm.ClassFile.FieldType.object "TaskCores$Task"))) ∈ md_Ts := mw_3 128 rfl rfl
theorem tw_609 : (Jvm.Cond.methodLink "TaskCoresLaw" (93 : Nat) ({ cls := "TaskCores", name := "holder", desc := "(I)I" } : Jvm.MethodName)) ∈ md_Ts := mw_3 129 rfl rfl
theorem tw_610 : (Jvm.Cond.instanceMethod ({ cls := "TaskCores", name := "holder", desc := "(I)I" } : Jvm.MethodName)) ∈ md_Ts := mw_3 130 rfl rfl
theorem tw_611 : (Jvm.Cond.selects "TaskCores" ({ cls := "TaskCores", name := "holder", desc := "(I)I" } : Jvm.MethodName) ({ cls := "TaskCores", name := "holder", desc := "(I)I" } : Jvm.MethodName)) ∈ md_Ts := mw_3 131 rfl rfl
theorem tw_612 : (Jvm.Cond.code ({ cls := "TaskCores", name := "holder", desc := "(I)I" } : Jvm.MethodName) prog_1_method_17_code (3 : Nat) (Option.some Jvm.ClassFile.FieldType.int)) ∈ md_Ts := mw_3 132 rfl rfl
theorem tw_613 : (Jvm.Cond.methodLink "TaskCoresLaw" (9 : Nat) ({ cls := "TaskCoresLaw", name := "cell", desc := "([II)I" } : Jvm.MethodName)) ∈ md_Ts := mw_3 133 rfl rfl
theorem tw_614 : (Jvm.Cond.static ({ cls := "TaskCoresLaw", name := "cell", desc := "([II)I" } : Jvm.MethodName)) ∈ md_Ts := mw_3 134 rfl rfl
theorem tw_615 : (Jvm.Cond.code ({ cls := "TaskCoresLaw", name := "cell", desc := "([II)I" } : Jvm.MethodName) method_2_code (2 : Nat) (Option.some Jvm.ClassFile.FieldType.int)) ∈ md_Ts := mw_3 135 rfl rfl
theorem tw_616 : (Jvm.Cond.classLink "TaskCoresLaw" (18 : Nat) "TaskCoresModel") ∈ md_Ts := mw_3 136 rfl rfl
theorem tw_617 : (Jvm.Cond.instantiable "TaskCoresModel" (45 : Nat)) ∈ md_Ts := mw_3 137 rfl rfl
theorem tw_618 : (Jvm.Cond.methodLink "TaskCoresLaw" (20 : Nat) ({ cls := "TaskCoresModel", name := "<init>", desc := "(I)V" } : Jvm.MethodName)) ∈ md_Ts := mw_3 138 rfl rfl
theorem tw_619 : (Jvm.Cond.instanceMethod ({ cls := "TaskCoresModel", name := "<init>", desc := "(I)V" } : Jvm.MethodName)) ∈ md_Ts := mw_3 139 rfl rfl
theorem tw_620 : (Jvm.Cond.code ({ cls := "TaskCoresModel", name := "<init>", desc := "(I)V" } : Jvm.MethodName) prog_12_method_1_code (2 : Nat) (Option.none : Option Jvm.ClassFile.FieldType)) ∈ md_Ts := mw_3 140 rfl rfl
theorem tw_621 : (Jvm.Cond.methodLink "TaskCoresModel" (1 : Nat) ({ cls := "java/lang/Object", name := "<init>", desc := "()V" } : Jvm.MethodName)) ∈ md_Ts := mw_3 141 rfl rfl
theorem tw_622 : (Jvm.Cond.constant "TaskCoresModel" (108 : Nat) (400000 : Int32)) ∈ md_Ts := mw_3 142 rfl rfl
theorem tw_623 : (Jvm.Cond.fieldLink "TaskCoresModel" (113 : Nat) "TaskCoresModel" "cores" "I") ∈ md_Ts := mw_3 143 rfl rfl
theorem tw_624 : (Jvm.Cond.fieldLink "TaskCoresModel" (117 : Nat) "TaskCoresModel" "tasks" "I") ∈ md_Ts := mw_3 144 rfl rfl
theorem tw_625 : (Jvm.Cond.fieldLink "TaskCoresModel" (7 : Nat) "TaskCoresModel" "rank" "[I") ∈ md_Ts := mw_3 145 rfl rfl
theorem tw_626 : (Jvm.Cond.fieldLink "TaskCoresModel" (13 : Nat) "TaskCoresModel" "core" "[I") ∈ md_Ts := mw_3 146 rfl rfl
theorem tw_627 : (Jvm.Cond.fieldLink "TaskCoresModel" (16 : Nat) "TaskCoresModel" "bound" "[I") ∈ md_Ts := mw_3 147 rfl rfl
theorem tw_628 : (Jvm.Cond.fieldLink "TaskCoresModel" (19 : Nat) "TaskCoresModel" "extended" "[Z") ∈ md_Ts := mw_3 148 rfl rfl
theorem tw_629 : (Jvm.Cond.fieldLink "TaskCoresModel" (23 : Nat) "TaskCoresModel" "full" "[Z") ∈ md_Ts := mw_3 149 rfl rfl
theorem tw_630 : (Jvm.Cond.fieldLink "TaskCoresModel" (148 : Nat) "TaskCoresModel" "parts" "I") ∈ md_Ts := mw_3 150 rfl rfl
theorem tw_631 : (Jvm.Cond.fieldLink "TaskCoresModel" (26 : Nat) "TaskCoresModel" "partOf" "[I") ∈ md_Ts := mw_3 151 rfl rfl
theorem tw_632 : (Jvm.Cond.fieldLink "TaskCoresModel" (29 : Nat) "TaskCoresModel" "partKind" "[I") ∈ md_Ts := mw_3 152 rfl rfl
theorem tw_633 : (Jvm.Cond.fieldLink "TaskCoresModel" (32 : Nat) "TaskCoresModel" "partV" "[J") ∈ md_Ts := mw_3 153 rfl rfl
theorem tw_634 : (Jvm.Cond.fieldLink "TaskCoresModel" (36 : Nat) "TaskCoresModel" "state" "[I") ∈ md_Ts := mw_3 154 rfl rfl
theorem tw_635 : (Jvm.Cond.fieldLink "TaskCoresModel" (39 : Nat) "TaskCoresModel" "turn" "[J") ∈ md_Ts := mw_3 155 rfl rfl
theorem tw_636 : (Jvm.Cond.fieldLink "TaskCoresModel" (42 : Nat) "TaskCoresModel" "wanted" "[I") ∈ md_Ts := mw_3 156 rfl rfl
theorem tw_637 : (Jvm.Cond.fieldLink "TaskCoresModel" (45 : Nat) "TaskCoresModel" "next" "[I") ∈ md_Ts := mw_3 157 rfl rfl
theorem tw_638 : (Jvm.Cond.fieldLink "TaskCoresModel" (48 : Nat) "TaskCoresModel" "left" "[J") ∈ md_Ts := mw_3 158 rfl rfl
theorem tw_639 : (Jvm.Cond.fieldLink "TaskCoresModel" (51 : Nat) "TaskCoresModel" "starts" "[Z") ∈ md_Ts := mw_3 159 rfl rfl
theorem tw_640 : (Jvm.Cond.fieldLink "TaskCoresModel" (54 : Nat) "TaskCoresModel" "events" "[I") ∈ md_Ts := mw_3 160 rfl rfl
theorem tw_641 : (Jvm.Cond.fieldLink "TaskCoresModel" (57 : Nat) "TaskCoresModel" "awaited" "[I") ∈ md_Ts := mw_3 161 rfl rfl
theorem tw_642 : (Jvm.Cond.fieldLink "TaskCoresModel" (60 : Nat) "TaskCoresModel" "yields" "[Z") ∈ md_Ts := mw_3 162 rfl rfl
theorem tw_643 : (Jvm.Cond.fieldLink "TaskCoresModel" (63 : Nat) "TaskCoresModel" "used" "[J") ∈ md_Ts := mw_3 163 rfl rfl
theorem tw_644 : (Jvm.Cond.fieldLink "TaskCoresModel" (162 : Nat) "TaskCoresModel" "turns" "J") ∈ md_Ts := mw_3 164 rfl rfl
theorem tw_645 : (Jvm.Cond.fieldLink "TaskCoresModel" (66 : Nat) "TaskCoresModel" "holder" "[I") ∈ md_Ts := mw_3 165 rfl rfl
theorem tw_646 : (Jvm.Cond.fieldLink "TaskCoresModel" (69 : Nat) "TaskCoresModel" "gotAt" "[J") ∈ md_Ts := mw_3 166 rfl rfl
theorem tw_647 : (Jvm.Cond.fieldLink "TaskCoresModel" (72 : Nat) "TaskCoresModel" "ceiling" "[I") ∈ md_Ts := mw_3 167 rfl rfl
theorem tw_648 : (Jvm.Cond.fieldLink "TaskCoresModel" (75 : Nat) "TaskCoresModel" "owner" "[I") ∈ md_Ts := mw_3 168 rfl rfl
theorem tw_649 : (Jvm.Cond.fieldLink "TaskCoresModel" (78 : Nat) "TaskCoresModel" "spins" "[I") ∈ md_Ts := mw_3 169 rfl rfl
theorem tw_650 : (Jvm.Cond.fieldLink "TaskCoresModel" (81 : Nat) "TaskCoresModel" "spinsSince" "[J") ∈ md_Ts := mw_3 170 rfl rfl
theorem tw_651 : (Jvm.Cond.fieldLink "TaskCoresModel" (194 : Nat) "TaskCoresModel" "orders" "J") ∈ md_Ts := mw_3 171 rfl rfl
theorem tw_652 : (Jvm.Cond.fieldLink "TaskCoresModel" (176 : Nat) "TaskCoresModel" "offBy" "I") ∈ md_Ts := mw_3 172 rfl rfl
theorem tw_653 : (Jvm.Cond.fieldLink "TaskCoresModel" (202 : Nat) "TaskCoresModel" "offEnd" "J") ∈ md_Ts := mw_3 173 rfl rfl
theorem tw_654 : (Jvm.Cond.fieldLink "TaskCoresModel" (205 : Nat) "TaskCoresModel" "offTold" "Z") ∈ md_Ts := mw_3 174 rfl rfl
theorem tw_655 : (Jvm.Cond.fieldLink "TaskCoresModel" (151 : Nat) "TaskCoresModel" "alarms" "I") ∈ md_Ts := mw_3 175 rfl rfl
theorem tw_656 : (Jvm.Cond.fieldLink "TaskCoresModel" (84 : Nat) "TaskCoresModel" "alarmTask" "[I") ∈ md_Ts := mw_3 176 rfl rfl
theorem tw_657 : (Jvm.Cond.fieldLink "TaskCoresModel" (87 : Nat) "TaskCoresModel" "alarmAt" "[J") ∈ md_Ts := mw_3 177 rfl rfl
theorem tw_658 : (Jvm.Cond.fieldLink "TaskCoresModel" (156 : Nat) "TaskCoresModel" "interrupts" "I") ∈ md_Ts := mw_3 178 rfl rfl
theorem tw_659 : (Jvm.Cond.fieldLink "TaskCoresModel" (90 : Nat) "TaskCoresModel" "level" "[I") ∈ md_Ts := mw_3 179 rfl rfl
theorem tw_660 : (Jvm.Cond.fieldLink "TaskCoresModel" (93 : Nat) "TaskCoresModel" "comes" "[J") ∈ md_Ts := mw_3 180 rfl rfl
theorem tw_661 : (Jvm.Cond.fieldLink "TaskCoresModel" (96 : Nat) "TaskCoresModel" "rest" "[J") ∈ md_Ts := mw_3 181 rfl rfl
theorem tw_662 : (Jvm.Cond.fieldLink "TaskCoresModel" (159 : Nat) "TaskCoresModel" "codes" "I") ∈ md_Ts := mw_3 182 rfl rfl
theorem tw_663 : (Jvm.Cond.fieldLink "TaskCoresModel" (99 : Nat) "TaskCoresModel" "codeKind" "[I") ∈ md_Ts := mw_3 183 rfl rfl
theorem tw_664 : (Jvm.Cond.fieldLink "TaskCoresModel" (102 : Nat) "TaskCoresModel" "codeTask" "[I") ∈ md_Ts := mw_3 184 rfl rfl
theorem tw_665 : (Jvm.Cond.fieldLink "TaskCoresModel" (105 : Nat) "TaskCoresModel" "codeAt" "[J") ∈ md_Ts := mw_3 185 rfl rfl
theorem tw_666 : (Jvm.Cond.fieldLink "TaskCoresModel" (120 : Nat) "TaskCoresModel" "now" "J") ∈ md_Ts := mw_3 186 rfl rfl
theorem tw_667 : (Jvm.Cond.fieldLink "TaskCoresModel" (109 : Nat) "TaskCoresModel" "who" "[S") ∈ md_Ts := mw_3 187 rfl rfl
theorem tw_759 : (Jvm.Cond.arrayClass Jvm.ClassFile.FieldType.int) ∈ md_Ts := mw_4 39 rfl rfl
theorem tw_760 : (Jvm.Cond.arrayClass Jvm.ClassFile.FieldType.boolean) ∈ md_Ts := mw_4 40 rfl rfl
theorem tw_761 : (Jvm.Cond.arrayClass Jvm.ClassFile.FieldType.short) ∈ md_Ts := mw_4 41 rfl rfl
theorem tw_762 : (Jvm.Cond.methodLink "TaskCoresLaw" (25 : Nat) ({ cls := "TaskCoresModel", name := "task", desc := "(IIIZ)I" } : Jvm.MethodName)) ∈ md_Ts := mw_4 42 rfl rfl
theorem tw_763 : (Jvm.Cond.instanceMethod ({ cls := "TaskCoresModel", name := "task", desc := "(IIIZ)I" } : Jvm.MethodName)) ∈ md_Ts := mw_4 43 rfl rfl
theorem tw_764 : (Jvm.Cond.selects "TaskCoresModel" ({ cls := "TaskCoresModel", name := "task", desc := "(IIIZ)I" } : Jvm.MethodName) ({ cls := "TaskCoresModel", name := "task", desc := "(IIIZ)I" } : Jvm.MethodName)) ∈ md_Ts := mw_4 44 rfl rfl
theorem tw_765 : (Jvm.Cond.code ({ cls := "TaskCoresModel", name := "task", desc := "(IIIZ)I" } : Jvm.MethodName) prog_12_method_3_code (5 : Nat) (Option.some Jvm.ClassFile.FieldType.int)) ∈ md_Ts := mw_4 45 rfl rfl
theorem tw_766 : (Jvm.Cond.methodLink "TaskCoresLaw" (32 : Nat) ({ cls := "TaskCoresModel", name := "part", desc := "(IIJ)I" } : Jvm.MethodName)) ∈ md_Ts := mw_4 46 rfl rfl
theorem tw_767 : (Jvm.Cond.instanceMethod ({ cls := "TaskCoresModel", name := "part", desc := "(IIJ)I" } : Jvm.MethodName)) ∈ md_Ts := mw_4 47 rfl rfl
theorem tw_768 : (Jvm.Cond.selects "TaskCoresModel" ({ cls := "TaskCoresModel", name := "part", desc := "(IIJ)I" } : Jvm.MethodName) ({ cls := "TaskCoresModel", name := "part", desc := "(IIJ)I" } : Jvm.MethodName)) ∈ md_Ts := mw_4 48 rfl rfl
theorem tw_769 : (Jvm.Cond.code ({ cls := "TaskCoresModel", name := "part", desc := "(IIJ)I" } : Jvm.MethodName) prog_12_method_5_code (7 : Nat) (Option.some Jvm.ClassFile.FieldType.int)) ∈ md_Ts := mw_4 49 rfl rfl
theorem tw_770 : (Jvm.Cond.methodLink "TaskCoresModel" (140 : Nat) ({ cls := "TaskCoresModel", name := "no", desc := "(I)Z" } : Jvm.MethodName)) ∈ md_Ts := mw_4 50 rfl rfl
theorem tw_772 : (Jvm.Cond.instanceMethod ({ cls := "TaskCoresModel", name := "no", desc := "(I)Z" } : Jvm.MethodName)) ∈ md_Ts := mw_4 52 rfl rfl
theorem tw_773 : (Jvm.Cond.code ({ cls := "TaskCoresModel", name := "no", desc := "(I)Z" } : Jvm.MethodName) prog_12_method_2_code (2 : Nat) (Option.some Jvm.ClassFile.FieldType.boolean)) ∈ md_Ts := mw_4 53 rfl rfl
theorem tw_774 : (Jvm.Cond.methodLink "TaskCoresModel" (144 : Nat) ({ cls := "TaskCoresModel", name := "good", desc := "(IJ)Z" } : Jvm.MethodName)) ∈ md_Ts := mw_4 54 rfl rfl
theorem tw_775 : (Jvm.Cond.static ({ cls := "TaskCoresModel", name := "good", desc := "(IJ)Z" } : Jvm.MethodName)) ∈ md_Ts := mw_4 55 rfl rfl
theorem tw_776 : (Jvm.Cond.code ({ cls := "TaskCoresModel", name := "good", desc := "(IJ)Z" } : Jvm.MethodName) prog_12_method_4_code (3 : Nat) (Option.some Jvm.ClassFile.FieldType.boolean)) ∈ md_Ts := mw_4 56 rfl rfl
theorem tw_777 : (Jvm.Cond.constantLong "TaskCoresModel" (124 : Nat) (50000 : Int64)) ∈ md_Ts := mw_4 57 rfl rfl
theorem tw_778 : (Jvm.Cond.constantLong "TaskCoresModel" (126 : Nat) (100 : Int64)) ∈ md_Ts := mw_4 58 rfl rfl
theorem tw_779 : (Jvm.Cond.constantLong "TaskCoresModel" (128 : Nat) (65535 : Int64)) ∈ md_Ts := mw_4 59 rfl rfl
theorem tw_780 : (Jvm.Cond.constantLong "TaskCoresModel" (130 : Nat) (65537 : Int64)) ∈ md_Ts := mw_4 60 rfl rfl
theorem tw_781 : (Jvm.Cond.constantLong "TaskCoresModel" (132 : Nat) (6619135 : Int64)) ∈ md_Ts := mw_4 61 rfl rfl
theorem tw_782 : (Jvm.Cond.constantLong "TaskCoresModel" (134 : Nat) (65536 : Int64)) ∈ md_Ts := mw_4 62 rfl rfl
theorem tw_783 : (Jvm.Cond.constantLong "TaskCoresModel" (136 : Nat) (32 : Int64)) ∈ md_Ts := mw_4 63 rfl rfl
theorem tw_784 : (Jvm.Cond.constantLong "TaskCoresModel" (138 : Nat) (16 : Int64)) ∈ md_Ts := mw_4 64 rfl rfl
theorem tw_785 : (Jvm.Cond.methodLink "TaskCoresLaw" (37 : Nat) ({ cls := "TaskCoresModel", name := "manner", desc := "(IZ)I" } : Jvm.MethodName)) ∈ md_Ts := mw_4 65 rfl rfl
theorem tw_786 : (Jvm.Cond.instanceMethod ({ cls := "TaskCoresModel", name := "manner", desc := "(IZ)I" } : Jvm.MethodName)) ∈ md_Ts := mw_4 66 rfl rfl
theorem tw_787 : (Jvm.Cond.selects "TaskCoresModel" ({ cls := "TaskCoresModel", name := "manner", desc := "(IZ)I" } : Jvm.MethodName) ({ cls := "TaskCoresModel", name := "manner", desc := "(IZ)I" } : Jvm.MethodName)) ∈ md_Ts := mw_4 67 rfl rfl
theorem tw_788 : (Jvm.Cond.code ({ cls := "TaskCoresModel", name := "manner", desc := "(IZ)I" } : Jvm.MethodName) prog_12_method_6_code (3 : Nat) (Option.some Jvm.ClassFile.FieldType.int)) ∈ md_Ts := mw_4 68 rfl rfl
theorem tw_789 : (Jvm.Cond.methodLink "TaskCoresLaw" (42 : Nat) ({ cls := "TaskCoresModel", name := "activate", desc := "(IJ)I" } : Jvm.MethodName)) ∈ md_Ts := mw_4 69 rfl rfl
theorem tw_790 : (Jvm.Cond.instanceMethod ({ cls := "TaskCoresModel", name := "activate", desc := "(IJ)I" } : Jvm.MethodName)) ∈ md_Ts := mw_4 70 rfl rfl
theorem tw_791 : (Jvm.Cond.selects "TaskCoresModel" ({ cls := "TaskCoresModel", name := "activate", desc := "(IJ)I" } : Jvm.MethodName) ({ cls := "TaskCoresModel", name := "activate", desc := "(IJ)I" } : Jvm.MethodName)) ∈ md_Ts := mw_4 71 rfl rfl
theorem tw_792 : (Jvm.Cond.code ({ cls := "TaskCoresModel", name := "activate", desc := "(IJ)I" } : Jvm.MethodName) prog_12_method_7_code (4 : Nat) (Option.some Jvm.ClassFile.FieldType.int)) ∈ md_Ts := mw_4 72 rfl rfl
theorem tw_793 : (Jvm.Cond.methodLink "TaskCoresLaw" (47 : Nat) ({ cls := "TaskCoresModel", name := "interrupt", desc := "(IJJ)I" } : Jvm.MethodName)) ∈ md_Ts := mw_4 73 rfl rfl
theorem tw_794 : (Jvm.Cond.instanceMethod ({ cls := "TaskCoresModel", name := "interrupt", desc := "(IJJ)I" } : Jvm.MethodName)) ∈ md_Ts := mw_4 74 rfl rfl
theorem tw_795 : (Jvm.Cond.selects "TaskCoresModel" ({ cls := "TaskCoresModel", name := "interrupt", desc := "(IJJ)I" } : Jvm.MethodName) ({ cls := "TaskCoresModel", name := "interrupt", desc := "(IJJ)I" } : Jvm.MethodName)) ∈ md_Ts := mw_4 75 rfl rfl
theorem tw_796 : (Jvm.Cond.code ({ cls := "TaskCoresModel", name := "interrupt", desc := "(IJJ)I" } : Jvm.MethodName) prog_12_method_8_code (6 : Nat) (Option.some Jvm.ClassFile.FieldType.int)) ∈ md_Ts := mw_4 76 rfl rfl
theorem tw_797 : (Jvm.Cond.constantLong "TaskCoresModel" (154 : Nat) (10000 : Int64)) ∈ md_Ts := mw_4 77 rfl rfl
theorem tw_798 : (Jvm.Cond.methodLink "TaskCoresLaw" (52 : Nat) ({ cls := "TaskCoresModel", name := "run", desc := "(J)I" } : Jvm.MethodName)) ∈ md_Ts := mw_4 78 rfl rfl
theorem tw_799 : (Jvm.Cond.instanceMethod ({ cls := "TaskCoresModel", name := "run", desc := "(J)I" } : Jvm.MethodName)) ∈ md_Ts := mw_4 79 rfl rfl
theorem tw_800 : (Jvm.Cond.selects "TaskCoresModel" ({ cls := "TaskCoresModel", name := "run", desc := "(J)I" } : Jvm.MethodName) ({ cls := "TaskCoresModel", name := "run", desc := "(J)I" } : Jvm.MethodName)) ∈ md_Ts := mw_4 80 rfl rfl
theorem tw_801 : (Jvm.Cond.code ({ cls := "TaskCoresModel", name := "run", desc := "(J)I" } : Jvm.MethodName) prog_12_method_28_code (6 : Nat) (Option.some Jvm.ClassFile.FieldType.int)) ∈ md_Ts := mw_4 81 rfl rfl
theorem tw_802 : (Jvm.Cond.methodLink "TaskCoresModel" (239 : Nat) ({ cls := "TaskCoresModel", name := "findCeilings", desc := "()V" } : Jvm.MethodName)) ∈ md_Ts := mw_4 82 rfl rfl
theorem tw_804 : (Jvm.Cond.instanceMethod ({ cls := "TaskCoresModel", name := "findCeilings", desc := "()V" } : Jvm.MethodName)) ∈ md_Ts := mw_4 84 rfl rfl
theorem tw_805 : (Jvm.Cond.code ({ cls := "TaskCoresModel", name := "findCeilings", desc := "()V" } : Jvm.MethodName) prog_12_method_21_code (3 : Nat) (Option.none : Option Jvm.ClassFile.FieldType)) ∈ md_Ts := mw_4 85 rfl rfl
theorem tw_806 : (Jvm.Cond.methodLink "TaskCoresModel" (242 : Nat) ({ cls := "TaskCoresModel", name := "microsecond", desc := "()I" } : Jvm.MethodName)) ∈ md_Ts := mw_4 86 rfl rfl
theorem tw_808 : (Jvm.Cond.instanceMethod ({ cls := "TaskCoresModel", name := "microsecond", desc := "()I" } : Jvm.MethodName)) ∈ md_Ts := mw_4 88 rfl rfl
theorem tw_809 : (Jvm.Cond.code ({ cls := "TaskCoresModel", name := "microsecond", desc := "()I" } : Jvm.MethodName) prog_12_method_27_code (8 : Nat) (Option.some Jvm.ClassFile.FieldType.int)) ∈ md_Ts := mw_4 89 rfl rfl
theorem tw_810 : (Jvm.Cond.methodLink "TaskCoresModel" (185 : Nat) ({ cls := "TaskCoresModel", name := "begin", desc := "(I)V" } : Jvm.MethodName)) ∈ md_Ts := mw_4 90 rfl rfl
theorem tw_812 : (Jvm.Cond.instanceMethod ({ cls := "TaskCoresModel", name := "begin", desc := "(I)V" } : Jvm.MethodName)) ∈ md_Ts := mw_4 92 rfl rfl
theorem tw_813 : (Jvm.Cond.code ({ cls := "TaskCoresModel", name := "begin", desc := "(I)V" } : Jvm.MethodName) prog_12_method_11_code (2 : Nat) (Option.none : Option Jvm.ClassFile.FieldType)) ∈ md_Ts := mw_4 93 rfl rfl
theorem tw_814 : (Jvm.Cond.methodLink "TaskCoresModel" (165 : Nat) ({ cls := "TaskCoresModel", name := "tell", desc := "(II)V" } : Jvm.MethodName)) ∈ md_Ts := mw_4 94 rfl rfl
theorem tw_816 : (Jvm.Cond.instanceMethod ({ cls := "TaskCoresModel", name := "tell", desc := "(II)V" } : Jvm.MethodName)) ∈ md_Ts := mw_4 96 rfl rfl
theorem tw_817 : (Jvm.Cond.code ({ cls := "TaskCoresModel", name := "tell", desc := "(II)V" } : Jvm.MethodName) prog_12_method_9_code (3 : Nat) (Option.none : Option Jvm.ClassFile.FieldType)) ∈ md_Ts := mw_4 97 rfl rfl
theorem tw_818 : (Jvm.Cond.methodLink "TaskCoresModel" (169 : Nat) ({ cls := "TaskCoresModel", name := "ready", desc := "(I)V" } : Jvm.MethodName)) ∈ md_Ts := mw_4 98 rfl rfl
theorem tw_820 : (Jvm.Cond.instanceMethod ({ cls := "TaskCoresModel", name := "ready", desc := "(I)V" } : Jvm.MethodName)) ∈ md_Ts := mw_4 100 rfl rfl
theorem tw_821 : (Jvm.Cond.code ({ cls := "TaskCoresModel", name := "ready", desc := "(I)V" } : Jvm.MethodName) prog_12_method_10_code (2 : Nat) (Option.none : Option Jvm.ClassFile.FieldType)) ∈ md_Ts := mw_4 101 rfl rfl
theorem tw_822 : (Jvm.Cond.methodLink "TaskCoresModel" (232 : Nat) ({ cls := "TaskCoresModel", name := "step", desc := "(I)Z" } : Jvm.MethodName)) ∈ md_Ts := mw_4 102 rfl rfl
theorem tw_824 : (Jvm.Cond.instanceMethod ({ cls := "TaskCoresModel", name := "step", desc := "(I)Z" } : Jvm.MethodName)) ∈ md_Ts := mw_4 104 rfl rfl
theorem tw_825 : (Jvm.Cond.code ({ cls := "TaskCoresModel", name := "step", desc := "(I)Z" } : Jvm.MethodName) prog_12_method_25_code (4 : Nat) (Option.some Jvm.ClassFile.FieldType.boolean)) ∈ md_Ts := mw_4 105 rfl rfl
theorem tw_826 : (Jvm.Cond.methodLink "TaskCoresModel" (216 : Nat) ({ cls := "TaskCoresModel", name := "atHand", desc := "()I" } : Jvm.MethodName)) ∈ md_Ts := mw_4 106 rfl rfl
theorem tw_828 : (Jvm.Cond.instanceMethod ({ cls := "TaskCoresModel", name := "atHand", desc := "()I" } : Jvm.MethodName)) ∈ md_Ts := mw_4 108 rfl rfl
theorem tw_829 : (Jvm.Cond.code ({ cls := "TaskCoresModel", name := "atHand", desc := "()I" } : Jvm.MethodName) prog_12_method_24_code (4 : Nat) (Option.some Jvm.ClassFile.FieldType.int)) ∈ md_Ts := mw_4 109 rfl rfl
theorem tw_830 : (Jvm.Cond.methodLink "TaskCoresModel" (220 : Nat) ({ cls := "TaskCoresModel", name := "choose", desc := "(I)I" } : Jvm.MethodName)) ∈ md_Ts := mw_4 110 rfl rfl
theorem tw_832 : (Jvm.Cond.instanceMethod ({ cls := "TaskCoresModel", name := "choose", desc := "(I)I" } : Jvm.MethodName)) ∈ md_Ts := mw_4 112 rfl rfl
theorem tw_833 : (Jvm.Cond.code ({ cls := "TaskCoresModel", name := "choose", desc := "(I)I" } : Jvm.MethodName) prog_12_method_23_code (7 : Nat) (Option.some Jvm.ClassFile.FieldType.int)) ∈ md_Ts := mw_4 113 rfl rfl
theorem tw_834 : (Jvm.Cond.methodLink "TaskCoresModel" (209 : Nat) ({ cls := "TaskCoresModel", name := "runningOf", desc := "(I)I" } : Jvm.MethodName)) ∈ md_Ts := mw_4 114 rfl rfl
theorem tw_836 : (Jvm.Cond.instanceMethod ({ cls := "TaskCoresModel", name := "runningOf", desc := "(I)I" } : Jvm.MethodName)) ∈ md_Ts := mw_4 116 rfl rfl
theorem tw_837 : (Jvm.Cond.code ({ cls := "TaskCoresModel", name := "runningOf", desc := "(I)I" } : Jvm.MethodName) prog_12_method_22_code (4 : Nat) (Option.some Jvm.ClassFile.FieldType.int)) ∈ md_Ts := mw_4 117 rfl rfl
theorem tw_838 : (Jvm.Cond.methodLink "TaskCoresModel" (213 : Nat) ({ cls := "TaskCoresModel", name := "height", desc := "(I)I" } : Jvm.MethodName)) ∈ md_Ts := mw_4 118 rfl rfl
theorem tw_840 : (Jvm.Cond.instanceMethod ({ cls := "TaskCoresModel", name := "height", desc := "(I)I" } : Jvm.MethodName)) ∈ md_Ts := mw_4 120 rfl rfl
theorem tw_841 : (Jvm.Cond.code ({ cls := "TaskCoresModel", name := "height", desc := "(I)I" } : Jvm.MethodName) prog_12_method_20_code (4 : Nat) (Option.some Jvm.ClassFile.FieldType.int)) ∈ md_Ts := mw_4 121 rfl rfl
theorem tw_842 : (Jvm.Cond.methodLink "TaskCoresModel" (223 : Nat) ({ cls := "TaskCoresModel", name := "nextPart", desc := "(I)I" } : Jvm.MethodName)) ∈ md_Ts := mw_4 122 rfl rfl
theorem tw_844 : (Jvm.Cond.instanceMethod ({ cls := "TaskCoresModel", name := "nextPart", desc := "(I)I" } : Jvm.MethodName)) ∈ md_Ts := mw_4 124 rfl rfl
theorem tw_845 : (Jvm.Cond.code ({ cls := "TaskCoresModel", name := "nextPart", desc := "(I)I" } : Jvm.MethodName) prog_12_method_17_code (4 : Nat) (Option.some Jvm.ClassFile.FieldType.int)) ∈ md_Ts := mw_4 125 rfl rfl
theorem tw_846 : (Jvm.Cond.methodLink "TaskCoresModel" (191 : Nat) ({ cls := "TaskCoresModel", name := "ends", desc := "(I)V" } : Jvm.MethodName)) ∈ md_Ts := mw_4 126 rfl rfl
theorem tw_848 : (Jvm.Cond.instanceMethod ({ cls := "TaskCoresModel", name := "ends", desc := "(I)V" } : Jvm.MethodName)) ∈ md_Ts := mw_4 128 rfl rfl
theorem tw_849 : (Jvm.Cond.code ({ cls := "TaskCoresModel", name := "ends", desc := "(I)V" } : Jvm.MethodName) prog_12_method_16_code (2 : Nat) (Option.none : Option Jvm.ClassFile.FieldType)) ∈ md_Ts := mw_4 129 rfl rfl
theorem tw_850 : (Jvm.Cond.methodLink "TaskCoresModel" (182 : Nat) ({ cls := "TaskCoresModel", name := "free", desc := "(I)V" } : Jvm.MethodName)) ∈ md_Ts := mw_4 130 rfl rfl
theorem tw_852 : (Jvm.Cond.instanceMethod ({ cls := "TaskCoresModel", name := "free", desc := "(I)V" } : Jvm.MethodName)) ∈ md_Ts := mw_4 132 rfl rfl
theorem tw_853 : (Jvm.Cond.code ({ cls := "TaskCoresModel", name := "free", desc := "(I)V" } : Jvm.MethodName) prog_12_method_15_code (4 : Nat) (Option.none : Option Jvm.ClassFile.FieldType)) ∈ md_Ts := mw_4 133 rfl rfl
theorem tw_854 : (Jvm.Cond.methodLink "TaskCoresModel" (173 : Nat) ({ cls := "TaskCoresModel", name := "holdsSome", desc := "(I)Z" } : Jvm.MethodName)) ∈ md_Ts := mw_4 134 rfl rfl
theorem tw_856 : (Jvm.Cond.instanceMethod ({ cls := "TaskCoresModel", name := "holdsSome", desc := "(I)Z" } : Jvm.MethodName)) ∈ md_Ts := mw_4 136 rfl rfl
theorem tw_857 : (Jvm.Cond.code ({ cls := "TaskCoresModel", name := "holdsSome", desc := "(I)Z" } : Jvm.MethodName) prog_12_method_14_code (4 : Nat) (Option.some Jvm.ClassFile.FieldType.boolean)) ∈ md_Ts := mw_4 137 rfl rfl
theorem tw_858 : (Jvm.Cond.methodLink "TaskCoresModel" (179 : Nat) ({ cls := "TaskCoresModel", name := "unlock", desc := "(I)V" } : Jvm.MethodName)) ∈ md_Ts := mw_4 138 rfl rfl
theorem tw_860 : (Jvm.Cond.instanceMethod ({ cls := "TaskCoresModel", name := "unlock", desc := "(I)V" } : Jvm.MethodName)) ∈ md_Ts := mw_4 140 rfl rfl
theorem tw_861 : (Jvm.Cond.code ({ cls := "TaskCoresModel", name := "unlock", desc := "(I)V" } : Jvm.MethodName) prog_12_method_13_code (4 : Nat) (Option.none : Option Jvm.ClassFile.FieldType)) ∈ md_Ts := mw_4 141 rfl rfl
theorem tw_862 : (Jvm.Cond.methodLink "TaskCoresModel" (226 : Nat) ({ cls := "TaskCoresModel", name := "act", desc := "(IIJ)V" } : Jvm.MethodName)) ∈ md_Ts := mw_4 142 rfl rfl
theorem tw_864 : (Jvm.Cond.instanceMethod ({ cls := "TaskCoresModel", name := "act", desc := "(IIJ)V" } : Jvm.MethodName)) ∈ md_Ts := mw_4 144 rfl rfl
theorem tw_865 : (Jvm.Cond.code ({ cls := "TaskCoresModel", name := "act", desc := "(IIJ)V" } : Jvm.MethodName) prog_12_method_18_code (8 : Nat) (Option.none : Option Jvm.ClassFile.FieldType)) ∈ md_Ts := mw_4 145 rfl rfl
theorem tw_866 : (Jvm.Cond.methodLink "TaskCoresModel" (188 : Nat) ({ cls := "TaskCoresModel", name := "chain", desc := "(II)V" } : Jvm.MethodName)) ∈ md_Ts := mw_4 146 rfl rfl
theorem tw_868 : (Jvm.Cond.instanceMethod ({ cls := "TaskCoresModel", name := "chain", desc := "(II)V" } : Jvm.MethodName)) ∈ md_Ts := mw_4 148 rfl rfl
theorem tw_869 : (Jvm.Cond.code ({ cls := "TaskCoresModel", name := "chain", desc := "(II)V" } : Jvm.MethodName) prog_12_method_19_code (3 : Nat) (Option.none : Option Jvm.ClassFile.FieldType)) ∈ md_Ts := mw_4 149 rfl rfl
theorem tw_870 : (Jvm.Cond.constant "TaskCoresModel" (197 : Nat) (65536 : Int32)) ∈ md_Ts := mw_4 150 rfl rfl
theorem tw_871 : (Jvm.Cond.methodLink "TaskCoresModel" (198 : Nat) ({ cls := "TaskCoresModel", name := "set", desc := "(II)Z" } : Jvm.MethodName)) ∈ md_Ts := mw_4 151 rfl rfl
theorem tw_873 : (Jvm.Cond.instanceMethod ({ cls := "TaskCoresModel", name := "set", desc := "(II)Z" } : Jvm.MethodName)) ∈ md_Ts := mw_4 153 rfl rfl
theorem tw_874 : (Jvm.Cond.code ({ cls := "TaskCoresModel", name := "set", desc := "(II)Z" } : Jvm.MethodName) prog_12_method_12_code (3 : Nat) (Option.some Jvm.ClassFile.FieldType.boolean)) ∈ md_Ts := mw_4 154 rfl rfl
theorem tw_875 : (Jvm.Cond.constant "TaskCoresModel" (235 : Nat) (50000 : Int32)) ∈ md_Ts := mw_4 155 rfl rfl
theorem tw_876 : (Jvm.Cond.methodLink "TaskCoresModel" (236 : Nat) ({ cls := "TaskCoresModel", name := "pass", desc := "(I)V" } : Jvm.MethodName)) ∈ md_Ts := mw_4 156 rfl rfl
theorem tw_878 : (Jvm.Cond.instanceMethod ({ cls := "TaskCoresModel", name := "pass", desc := "(I)V" } : Jvm.MethodName)) ∈ md_Ts := mw_4 158 rfl rfl
theorem tw_879 : (Jvm.Cond.code ({ cls := "TaskCoresModel", name := "pass", desc := "(I)V" } : Jvm.MethodName) prog_12_method_26_code (2 : Nat) (Option.none : Option Jvm.ClassFile.FieldType)) ∈ md_Ts := mw_4 159 rfl rfl
theorem tw_880 : (Jvm.Cond.constantLong "TaskCoresModel" (230 : Nat) (-1 : Int64)) ∈ md_Ts := mw_4 160 rfl rfl
theorem tw_881 : (Jvm.Cond.methodLink "TaskCoresLaw" (57 : Nat) ({ cls := "TaskCoresModel", name := "now", desc := "()J" } : Jvm.MethodName)) ∈ md_Ts := mw_4 161 rfl rfl
theorem tw_882 : (Jvm.Cond.instanceMethod ({ cls := "TaskCoresModel", name := "now", desc := "()J" } : Jvm.MethodName)) ∈ md_Ts := mw_4 162 rfl rfl
theorem tw_883 : (Jvm.Cond.selects "TaskCoresModel" ({ cls := "TaskCoresModel", name := "now", desc := "()J" } : Jvm.MethodName) ({ cls := "TaskCoresModel", name := "now", desc := "()J" } : Jvm.MethodName)) ∈ md_Ts := mw_4 163 rfl rfl
theorem tw_884 : (Jvm.Cond.code ({ cls := "TaskCoresModel", name := "now", desc := "()J" } : Jvm.MethodName) prog_12_method_29_code (1 : Nat) (Option.some Jvm.ClassFile.FieldType.long)) ∈ md_Ts := mw_4 164 rfl rfl
theorem tw_885 : (Jvm.Cond.methodLink "TaskCoresLaw" (61 : Nat) ({ cls := "TaskCoresModel", name := "running", desc := "(IJ)I" } : Jvm.MethodName)) ∈ md_Ts := mw_4 165 rfl rfl
theorem tw_886 : (Jvm.Cond.instanceMethod ({ cls := "TaskCoresModel", name := "running", desc := "(IJ)I" } : Jvm.MethodName)) ∈ md_Ts := mw_4 166 rfl rfl
theorem tw_887 : (Jvm.Cond.selects "TaskCoresModel" ({ cls := "TaskCoresModel", name := "running", desc := "(IJ)I" } : Jvm.MethodName) ({ cls := "TaskCoresModel", name := "running", desc := "(IJ)I" } : Jvm.MethodName)) ∈ md_Ts := mw_4 167 rfl rfl
theorem tw_888 : (Jvm.Cond.code ({ cls := "TaskCoresModel", name := "running", desc := "(IJ)I" } : Jvm.MethodName) prog_12_method_30_code (4 : Nat) (Option.some Jvm.ClassFile.FieldType.int)) ∈ md_Ts := mw_4 168 rfl rfl
theorem tw_889 : (Jvm.Cond.methodLink "TaskCoresLaw" (66 : Nat) ({ cls := "TaskCoresModel", name := "used", desc := "(I)J" } : Jvm.MethodName)) ∈ md_Ts := mw_4 169 rfl rfl
theorem tw_890 : (Jvm.Cond.instanceMethod ({ cls := "TaskCoresModel", name := "used", desc := "(I)J" } : Jvm.MethodName)) ∈ md_Ts := mw_4 170 rfl rfl
theorem tw_891 : (Jvm.Cond.selects "TaskCoresModel" ({ cls := "TaskCoresModel", name := "used", desc := "(I)J" } : Jvm.MethodName) ({ cls := "TaskCoresModel", name := "used", desc := "(I)J" } : Jvm.MethodName)) ∈ md_Ts := mw_4 171 rfl rfl
theorem tw_892 : (Jvm.Cond.code ({ cls := "TaskCoresModel", name := "used", desc := "(I)J" } : Jvm.MethodName) prog_12_method_31_code (2 : Nat) (Option.some Jvm.ClassFile.FieldType.long)) ∈ md_Ts := mw_4 172 rfl rfl
theorem tw_893 : (Jvm.Cond.methodLink "TaskCoresLaw" (71 : Nat) ({ cls := "TaskCoresModel", name := "state", desc := "(I)I" } : Jvm.MethodName)) ∈ md_Ts := mw_4 173 rfl rfl
theorem tw_894 : (Jvm.Cond.instanceMethod ({ cls := "TaskCoresModel", name := "state", desc := "(I)I" } : Jvm.MethodName)) ∈ md_Ts := mw_4 174 rfl rfl
theorem tw_895 : (Jvm.Cond.selects "TaskCoresModel" ({ cls := "TaskCoresModel", name := "state", desc := "(I)I" } : Jvm.MethodName) ({ cls := "TaskCoresModel", name := "state", desc := "(I)I" } : Jvm.MethodName)) ∈ md_Ts := mw_4 175 rfl rfl
theorem tw_896 : (Jvm.Cond.code ({ cls := "TaskCoresModel", name := "state", desc := "(I)I" } : Jvm.MethodName) prog_12_method_32_code (2 : Nat) (Option.some Jvm.ClassFile.FieldType.int)) ∈ md_Ts := mw_4 176 rfl rfl
theorem tw_897 : (Jvm.Cond.methodLink "TaskCoresLaw" (76 : Nat) ({ cls := "TaskCoresModel", name := "event", desc := "(II)I" } : Jvm.MethodName)) ∈ md_Ts := mw_4 177 rfl rfl
theorem tw_898 : (Jvm.Cond.instanceMethod ({ cls := "TaskCoresModel", name := "event", desc := "(II)I" } : Jvm.MethodName)) ∈ md_Ts := mw_4 178 rfl rfl
theorem tw_899 : (Jvm.Cond.selects "TaskCoresModel" ({ cls := "TaskCoresModel", name := "event", desc := "(II)I" } : Jvm.MethodName) ({ cls := "TaskCoresModel", name := "event", desc := "(II)I" } : Jvm.MethodName)) ∈ md_Ts := mw_4 179 rfl rfl
theorem tw_900 : (Jvm.Cond.code ({ cls := "TaskCoresModel", name := "event", desc := "(II)I" } : Jvm.MethodName) prog_12_method_33_code (3 : Nat) (Option.some Jvm.ClassFile.FieldType.int)) ∈ md_Ts := mw_4 180 rfl rfl
theorem tw_901 : (Jvm.Cond.constant "TaskCoresModel" (245 : Nat) (65535 : Int32)) ∈ md_Ts := mw_4 181 rfl rfl
theorem tw_902 : (Jvm.Cond.methodLink "TaskCoresLaw" (80 : Nat) ({ cls := "TaskCoresModel", name := "events", desc := "(I)I" } : Jvm.MethodName)) ∈ md_Ts := mw_4 182 rfl rfl
theorem tw_903 : (Jvm.Cond.instanceMethod ({ cls := "TaskCoresModel", name := "events", desc := "(I)I" } : Jvm.MethodName)) ∈ md_Ts := mw_4 183 rfl rfl
theorem tw_904 : (Jvm.Cond.selects "TaskCoresModel" ({ cls := "TaskCoresModel", name := "events", desc := "(I)I" } : Jvm.MethodName) ({ cls := "TaskCoresModel", name := "events", desc := "(I)I" } : Jvm.MethodName)) ∈ md_Ts := mw_4 184 rfl rfl
theorem tw_905 : (Jvm.Cond.code ({ cls := "TaskCoresModel", name := "events", desc := "(I)I" } : Jvm.MethodName) prog_12_method_34_code (2 : Nat) (Option.some Jvm.ClassFile.FieldType.int)) ∈ md_Ts := mw_4 185 rfl rfl
theorem tw_906 : (Jvm.Cond.methodLink "TaskCoresLaw" (84 : Nat) ({ cls := "TaskCoresModel", name := "code", desc := "(II)I" } : Jvm.MethodName)) ∈ md_Ts := mw_4 186 rfl rfl
theorem tw_907 : (Jvm.Cond.instanceMethod ({ cls := "TaskCoresModel", name := "code", desc := "(II)I" } : Jvm.MethodName)) ∈ md_Ts := mw_4 187 rfl rfl
theorem tw_908 : (Jvm.Cond.selects "TaskCoresModel" ({ cls := "TaskCoresModel", name := "code", desc := "(II)I" } : Jvm.MethodName) ({ cls := "TaskCoresModel", name := "code", desc := "(II)I" } : Jvm.MethodName)) ∈ md_Ts := mw_4 188 rfl rfl
theorem tw_909 : (Jvm.Cond.code ({ cls := "TaskCoresModel", name := "code", desc := "(II)I" } : Jvm.MethodName) prog_12_method_35_code (3 : Nat) (Option.some Jvm.ClassFile.FieldType.int)) ∈ md_Ts := mw_4 189 rfl rfl
theorem tw_910 : (Jvm.Cond.methodLink "TaskCoresLaw" (88 : Nat) ({ cls := "TaskCoresModel", name := "order", desc := "(II)I" } : Jvm.MethodName)) ∈ md_Ts := mw_4 190 rfl rfl
theorem tw_911 : (Jvm.Cond.instanceMethod ({ cls := "TaskCoresModel", name := "order", desc := "(II)I" } : Jvm.MethodName)) ∈ md_Ts := mw_4 191 rfl rfl
theorem tw_912 : (Jvm.Cond.selects "TaskCoresModel" ({ cls := "TaskCoresModel", name := "order", desc := "(II)I" } : Jvm.MethodName) ({ cls := "TaskCoresModel", name := "order", desc := "(II)I" } : Jvm.MethodName)) ∈ md_Ts := mw_4 192 rfl rfl
theorem tw_913 : (Jvm.Cond.code ({ cls := "TaskCoresModel", name := "order", desc := "(II)I" } : Jvm.MethodName) prog_12_method_37_code (7 : Nat) (Option.some Jvm.ClassFile.FieldType.int)) ∈ md_Ts := mw_4 193 rfl rfl
theorem tw_914 : (Jvm.Cond.methodLink "TaskCoresModel" (246 : Nat) ({ cls := "TaskCoresModel", name := "isSwitch", desc := "(II)Z" } : Jvm.MethodName)) ∈ md_Ts := mw_4 194 rfl rfl
theorem tw_916 : (Jvm.Cond.instanceMethod ({ cls := "TaskCoresModel", name := "isSwitch", desc := "(II)Z" } : Jvm.MethodName)) ∈ md_Ts := mw_4 196 rfl rfl
theorem tw_917 : (Jvm.Cond.code ({ cls := "TaskCoresModel", name := "isSwitch", desc := "(II)Z" } : Jvm.MethodName) prog_12_method_36_code (3 : Nat) (Option.some Jvm.ClassFile.FieldType.boolean)) ∈ md_Ts := mw_4 197 rfl rfl
theorem tw_918 : (Jvm.Cond.methodLink "TaskCoresLaw" (92 : Nat) ({ cls := "TaskCoresModel", name := "spin", desc := "(II)I" } : Jvm.MethodName)) ∈ md_Ts := mw_4 198 rfl rfl
theorem tw_919 : (Jvm.Cond.instanceMethod ({ cls := "TaskCoresModel", name := "spin", desc := "(II)I" } : Jvm.MethodName)) ∈ md_Ts := mw_4 199 rfl rfl
theorem tw_920 : (Jvm.Cond.selects "TaskCoresModel" ({ cls := "TaskCoresModel", name := "spin", desc := "(II)I" } : Jvm.MethodName) ({ cls := "TaskCoresModel", name := "spin", desc := "(II)I" } : Jvm.MethodName)) ∈ md_Ts := mw_4 200 rfl rfl
theorem tw_921 : (Jvm.Cond.code ({ cls := "TaskCoresModel", name := "spin", desc := "(II)I" } : Jvm.MethodName) prog_12_method_38_code (5 : Nat) (Option.some Jvm.ClassFile.FieldType.int)) ∈ md_Ts := mw_4 201 rfl rfl
theorem tw_922 : (Jvm.Cond.methodLink "TaskCoresLaw" (96 : Nat) ({ cls := "TaskCoresModel", name := "holder", desc := "(I)I" } : Jvm.MethodName)) ∈ md_Ts := mw_4 202 rfl rfl
theorem tw_923 : (Jvm.Cond.instanceMethod ({ cls := "TaskCoresModel", name := "holder", desc := "(I)I" } : Jvm.MethodName)) ∈ md_Ts := mw_4 203 rfl rfl
theorem tw_924 : (Jvm.Cond.selects "TaskCoresModel" ({ cls := "TaskCoresModel", name := "holder", desc := "(I)I" } : Jvm.MethodName) ({ cls := "TaskCoresModel", name := "holder", desc := "(I)I" } : Jvm.MethodName)) ∈ md_Ts := mw_4 204 rfl rfl
theorem tw_925 : (Jvm.Cond.code ({ cls := "TaskCoresModel", name := "holder", desc := "(I)I" } : Jvm.MethodName) prog_12_method_39_code (2 : Nat) (Option.some Jvm.ClassFile.FieldType.int)) ∈ md_Ts := mw_4 205 rfl rfl
theorem tw_926 : (Jvm.Cond.constantLong "TaskCoresLaw" (26 : Nat) (4294967295 : Int64)) ∈ md_Ts := mw_4 206 rfl rfl
theorem tp_0 : Cond.selects "TaskCores" ({ cls := "TaskCores", name := "coreOf", desc := "(I)LTaskCores$Core;" } : Jvm.MethodName) ({ cls := "TaskCores", name := "coreOf", desc := "(I)LTaskCores$Core;" } : Jvm.MethodName) ∈ md_Ts := mw_p 0 rfl rfl
theorem tp_1 : Cond.selects "TaskCores" ({ cls := "TaskCores", name := "taskOf", desc := "(I)LTaskCores$Task;" } : Jvm.MethodName) ({ cls := "TaskCores", name := "taskOf", desc := "(I)LTaskCores$Task;" } : Jvm.MethodName) ∈ md_Ts := mw_p 1 rfl rfl
theorem tp_2 : Cond.selects "TaskCores" ({ cls := "TaskCores", name := "resourceOf", desc := "(I)LTaskCores$Resource;" } : Jvm.MethodName) ({ cls := "TaskCores", name := "resourceOf", desc := "(I)LTaskCores$Resource;" } : Jvm.MethodName) ∈ md_Ts := mw_p 2 rfl rfl
theorem tp_3 : Cond.selects "TaskCores" ({ cls := "TaskCores", name := "isToCome", desc := "(J)Z" } : Jvm.MethodName) ({ cls := "TaskCores", name := "isToCome", desc := "(J)Z" } : Jvm.MethodName) ∈ md_Ts := mw_p 3 rfl rfl
theorem tp_4 : Cond.selects "TaskCores" ({ cls := "TaskCores", name := "addTelling", desc := "(LTaskCores$Telling;)V" } : Jvm.MethodName) ({ cls := "TaskCores", name := "addTelling", desc := "(LTaskCores$Telling;)V" } : Jvm.MethodName) ∈ md_Ts := mw_p 4 rfl rfl
theorem tp_5 : Cond.selects "TaskCores" ({ cls := "TaskCores", name := "activateThoseTold", desc := "()V" } : Jvm.MethodName) ({ cls := "TaskCores", name := "activateThoseTold", desc := "()V" } : Jvm.MethodName) ∈ md_Ts := mw_p 5 rfl rfl
theorem tp_6 : Cond.selects "TaskCores" ({ cls := "TaskCores", name := "activateTask", desc := "(LTaskCores$Task;)V" } : Jvm.MethodName) ({ cls := "TaskCores", name := "activateTask", desc := "(LTaskCores$Task;)V" } : Jvm.MethodName) ∈ md_Ts := mw_p 6 rfl rfl
theorem tp_7 : Cond.selects "TaskCores" ({ cls := "TaskCores", name := "startTask", desc := "(LTaskCores$Task;)V" } : Jvm.MethodName) ({ cls := "TaskCores", name := "startTask", desc := "(LTaskCores$Task;)V" } : Jvm.MethodName) ∈ md_Ts := mw_p 7 rfl rfl
theorem tp_8 : Cond.selects "TaskCores" ({ cls := "TaskCores", name := "makeReady", desc := "(LTaskCores$Task;)V" } : Jvm.MethodName) ({ cls := "TaskCores", name := "makeReady", desc := "(LTaskCores$Task;)V" } : Jvm.MethodName) ∈ md_Ts := mw_p 8 rfl rfl
theorem tp_9 : Cond.selects "TaskCores" ({ cls := "TaskCores", name := "tellCode", desc := "(ILTaskCores$Task;)V" } : Jvm.MethodName) ({ cls := "TaskCores", name := "tellCode", desc := "(ILTaskCores$Task;)V" } : Jvm.MethodName) ∈ md_Ts := mw_p 9 rfl rfl
theorem tp_10 : Cond.selects "TaskCores" ({ cls := "TaskCores", name := "takeSteps", desc := "()V" } : Jvm.MethodName) ({ cls := "TaskCores", name := "takeSteps", desc := "()V" } : Jvm.MethodName) ∈ md_Ts := mw_p 10 rfl rfl
theorem tp_11 : Cond.selects "TaskCores" ({ cls := "TaskCores", name := "taskWithStep", desc := "(LTaskCores$Core;)LTaskCores$Task;" } : Jvm.MethodName) ({ cls := "TaskCores", name := "taskWithStep", desc := "(LTaskCores$Core;)LTaskCores$Task;" } : Jvm.MethodName) ∈ md_Ts := mw_p 11 rfl rfl
theorem tp_12 : Cond.selects "TaskCores" ({ cls := "TaskCores", name := "choose", desc := "(LTaskCores$Core;)V" } : Jvm.MethodName) ({ cls := "TaskCores", name := "choose", desc := "(LTaskCores$Core;)V" } : Jvm.MethodName) ∈ md_Ts := mw_p 12 rfl rfl
theorem tp_13 : Cond.selects "TaskCores" ({ cls := "TaskCores", name := "lockOf", desc := "(I)LTaskCores$Lock;" } : Jvm.MethodName) ({ cls := "TaskCores", name := "lockOf", desc := "(I)LTaskCores$Lock;" } : Jvm.MethodName) ∈ md_Ts := mw_p 13 rfl rfl
theorem tp_14 : Cond.selects "TaskCores" ({ cls := "TaskCores", name := "doNextPart", desc := "(LTaskCores$Task;)V" } : Jvm.MethodName) ({ cls := "TaskCores", name := "doNextPart", desc := "(LTaskCores$Task;)V" } : Jvm.MethodName) ∈ md_Ts := mw_p 14 rfl rfl
theorem tp_15 : Cond.selects "TaskCores" ({ cls := "TaskCores", name := "endTask", desc := "(LTaskCores$Task;)V" } : Jvm.MethodName) ({ cls := "TaskCores", name := "endTask", desc := "(LTaskCores$Task;)V" } : Jvm.MethodName) ∈ md_Ts := mw_p 15 rfl rfl
theorem tp_16 : Cond.selects "TaskCores" ({ cls := "TaskCores", name := "freeAll", desc := "(LTaskCores$Task;)Z" } : Jvm.MethodName) ({ cls := "TaskCores", name := "freeAll", desc := "(LTaskCores$Task;)Z" } : Jvm.MethodName) ∈ md_Ts := mw_p 16 rfl rfl
theorem tp_17 : Cond.selects "TaskCores" ({ cls := "TaskCores", name := "activateByTask", desc := "(LTaskCores$Task;I)V" } : Jvm.MethodName) ({ cls := "TaskCores", name := "activateByTask", desc := "(LTaskCores$Task;I)V" } : Jvm.MethodName) ∈ md_Ts := mw_p 17 rfl rfl
theorem tp_18 : Cond.selects "TaskCores" ({ cls := "TaskCores", name := "chain", desc := "(LTaskCores$Task;I)V" } : Jvm.MethodName) ({ cls := "TaskCores", name := "chain", desc := "(LTaskCores$Task;I)V" } : Jvm.MethodName) ∈ md_Ts := mw_p 18 rfl rfl
theorem tp_19 : Cond.selects "TaskCores" ({ cls := "TaskCores", name := "waitFor", desc := "(LTaskCores$Task;I)V" } : Jvm.MethodName) ({ cls := "TaskCores", name := "waitFor", desc := "(LTaskCores$Task;I)V" } : Jvm.MethodName) ∈ md_Ts := mw_p 19 rfl rfl
theorem tp_20 : Cond.selects "TaskCores" ({ cls := "TaskCores", name := "setByTask", desc := "(LTaskCores$Task;II)V" } : Jvm.MethodName) ({ cls := "TaskCores", name := "setByTask", desc := "(LTaskCores$Task;II)V" } : Jvm.MethodName) ∈ md_Ts := mw_p 20 rfl rfl
theorem tp_21 : Cond.selects "TaskCores" ({ cls := "TaskCores", name := "setEvents", desc := "(LTaskCores$Task;I)V" } : Jvm.MethodName) ({ cls := "TaskCores", name := "setEvents", desc := "(LTaskCores$Task;I)V" } : Jvm.MethodName) ∈ md_Ts := mw_p 21 rfl rfl
theorem tp_22 : Cond.selects "TaskCores" ({ cls := "TaskCores", name := "clearEvents", desc := "(LTaskCores$Task;I)V" } : Jvm.MethodName) ({ cls := "TaskCores", name := "clearEvents", desc := "(LTaskCores$Task;I)V" } : Jvm.MethodName) ∈ md_Ts := mw_p 22 rfl rfl
theorem tp_23 : Cond.selects "TaskCores" ({ cls := "TaskCores", name := "getResource", desc := "(LTaskCores$Task;LTaskCores$Resource;)V" } : Jvm.MethodName) ({ cls := "TaskCores", name := "getResource", desc := "(LTaskCores$Task;LTaskCores$Resource;)V" } : Jvm.MethodName) ∈ md_Ts := mw_p 23 rfl rfl
theorem tp_24 : Cond.selects "TaskCores" ({ cls := "TaskCores", name := "freeResource", desc := "(LTaskCores$Task;LTaskCores$Resource;)V" } : Jvm.MethodName) ({ cls := "TaskCores", name := "freeResource", desc := "(LTaskCores$Task;LTaskCores$Resource;)V" } : Jvm.MethodName) ∈ md_Ts := mw_p 24 rfl rfl
theorem tp_25 : Cond.selects "TaskCores" ({ cls := "TaskCores", name := "takeLock", desc := "(LTaskCores$Task;LTaskCores$Lock;)V" } : Jvm.MethodName) ({ cls := "TaskCores", name := "takeLock", desc := "(LTaskCores$Task;LTaskCores$Lock;)V" } : Jvm.MethodName) ∈ md_Ts := mw_p 25 rfl rfl
theorem tp_26 : Cond.selects "TaskCores" ({ cls := "TaskCores", name := "unlock", desc := "(LTaskCores$Task;LTaskCores$Lock;)V" } : Jvm.MethodName) ({ cls := "TaskCores", name := "unlock", desc := "(LTaskCores$Task;LTaskCores$Lock;)V" } : Jvm.MethodName) ∈ md_Ts := mw_p 26 rfl rfl
theorem tp_27 : Cond.selects "TaskCores" ({ cls := "TaskCores", name := "putOff", desc := "(LTaskCores$Task;I)V" } : Jvm.MethodName) ({ cls := "TaskCores", name := "putOff", desc := "(LTaskCores$Task;I)V" } : Jvm.MethodName) ∈ md_Ts := mw_p 27 rfl rfl
theorem tp_28 : Cond.selects "TaskCores" ({ cls := "TaskCores", name := "putOn", desc := "(LTaskCores$Task;)V" } : Jvm.MethodName) ({ cls := "TaskCores", name := "putOn", desc := "(LTaskCores$Task;)V" } : Jvm.MethodName) ∈ md_Ts := mw_p 28 rfl rfl
theorem tp_29 : Cond.selects "TaskCores" ({ cls := "TaskCores", name := "tellIfOffTooLong", desc := "()V" } : Jvm.MethodName) ({ cls := "TaskCores", name := "tellIfOffTooLong", desc := "()V" } : Jvm.MethodName) ∈ md_Ts := mw_p 29 rfl rfl
theorem tp_30 : Cond.selects "TaskCores" ({ cls := "TaskCores", name := "quietMicroseconds", desc := "(I)I" } : Jvm.MethodName) ({ cls := "TaskCores", name := "quietMicroseconds", desc := "(I)I" } : Jvm.MethodName) ∈ md_Ts := mw_p 30 rfl rfl
theorem tp_31 : Cond.selects "TaskCores" ({ cls := "TaskCores", name := "passMicroseconds", desc := "(I)I" } : Jvm.MethodName) ({ cls := "TaskCores", name := "passMicroseconds", desc := "(I)I" } : Jvm.MethodName) ∈ md_Ts := mw_p 31 rfl rfl
theorem tp_32 : Cond.selects "TaskCoresModel" ({ cls := "TaskCoresModel", name := "no", desc := "(I)Z" } : Jvm.MethodName) ({ cls := "TaskCoresModel", name := "no", desc := "(I)Z" } : Jvm.MethodName) ∈ md_Ts := mw_p 32 rfl rfl
theorem tp_33 : Cond.selects "TaskCoresModel" ({ cls := "TaskCoresModel", name := "findCeilings", desc := "()V" } : Jvm.MethodName) ({ cls := "TaskCoresModel", name := "findCeilings", desc := "()V" } : Jvm.MethodName) ∈ md_Ts := mw_p 33 rfl rfl
theorem tp_34 : Cond.selects "TaskCoresModel" ({ cls := "TaskCoresModel", name := "microsecond", desc := "()I" } : Jvm.MethodName) ({ cls := "TaskCoresModel", name := "microsecond", desc := "()I" } : Jvm.MethodName) ∈ md_Ts := mw_p 34 rfl rfl
theorem tp_35 : Cond.selects "TaskCoresModel" ({ cls := "TaskCoresModel", name := "begin", desc := "(I)V" } : Jvm.MethodName) ({ cls := "TaskCoresModel", name := "begin", desc := "(I)V" } : Jvm.MethodName) ∈ md_Ts := mw_p 35 rfl rfl
theorem tp_36 : Cond.selects "TaskCoresModel" ({ cls := "TaskCoresModel", name := "tell", desc := "(II)V" } : Jvm.MethodName) ({ cls := "TaskCoresModel", name := "tell", desc := "(II)V" } : Jvm.MethodName) ∈ md_Ts := mw_p 36 rfl rfl
theorem tp_37 : Cond.selects "TaskCoresModel" ({ cls := "TaskCoresModel", name := "ready", desc := "(I)V" } : Jvm.MethodName) ({ cls := "TaskCoresModel", name := "ready", desc := "(I)V" } : Jvm.MethodName) ∈ md_Ts := mw_p 37 rfl rfl
theorem tp_38 : Cond.selects "TaskCoresModel" ({ cls := "TaskCoresModel", name := "step", desc := "(I)Z" } : Jvm.MethodName) ({ cls := "TaskCoresModel", name := "step", desc := "(I)Z" } : Jvm.MethodName) ∈ md_Ts := mw_p 38 rfl rfl
theorem tp_39 : Cond.selects "TaskCoresModel" ({ cls := "TaskCoresModel", name := "atHand", desc := "()I" } : Jvm.MethodName) ({ cls := "TaskCoresModel", name := "atHand", desc := "()I" } : Jvm.MethodName) ∈ md_Ts := mw_p 39 rfl rfl
theorem tp_40 : Cond.selects "TaskCoresModel" ({ cls := "TaskCoresModel", name := "choose", desc := "(I)I" } : Jvm.MethodName) ({ cls := "TaskCoresModel", name := "choose", desc := "(I)I" } : Jvm.MethodName) ∈ md_Ts := mw_p 40 rfl rfl
theorem tp_41 : Cond.selects "TaskCoresModel" ({ cls := "TaskCoresModel", name := "runningOf", desc := "(I)I" } : Jvm.MethodName) ({ cls := "TaskCoresModel", name := "runningOf", desc := "(I)I" } : Jvm.MethodName) ∈ md_Ts := mw_p 41 rfl rfl
theorem tp_42 : Cond.selects "TaskCoresModel" ({ cls := "TaskCoresModel", name := "height", desc := "(I)I" } : Jvm.MethodName) ({ cls := "TaskCoresModel", name := "height", desc := "(I)I" } : Jvm.MethodName) ∈ md_Ts := mw_p 42 rfl rfl
theorem tp_43 : Cond.selects "TaskCoresModel" ({ cls := "TaskCoresModel", name := "nextPart", desc := "(I)I" } : Jvm.MethodName) ({ cls := "TaskCoresModel", name := "nextPart", desc := "(I)I" } : Jvm.MethodName) ∈ md_Ts := mw_p 43 rfl rfl
theorem tp_44 : Cond.selects "TaskCoresModel" ({ cls := "TaskCoresModel", name := "ends", desc := "(I)V" } : Jvm.MethodName) ({ cls := "TaskCoresModel", name := "ends", desc := "(I)V" } : Jvm.MethodName) ∈ md_Ts := mw_p 44 rfl rfl
theorem tp_45 : Cond.selects "TaskCoresModel" ({ cls := "TaskCoresModel", name := "free", desc := "(I)V" } : Jvm.MethodName) ({ cls := "TaskCoresModel", name := "free", desc := "(I)V" } : Jvm.MethodName) ∈ md_Ts := mw_p 45 rfl rfl
theorem tp_46 : Cond.selects "TaskCoresModel" ({ cls := "TaskCoresModel", name := "holdsSome", desc := "(I)Z" } : Jvm.MethodName) ({ cls := "TaskCoresModel", name := "holdsSome", desc := "(I)Z" } : Jvm.MethodName) ∈ md_Ts := mw_p 46 rfl rfl
theorem tp_47 : Cond.selects "TaskCoresModel" ({ cls := "TaskCoresModel", name := "unlock", desc := "(I)V" } : Jvm.MethodName) ({ cls := "TaskCoresModel", name := "unlock", desc := "(I)V" } : Jvm.MethodName) ∈ md_Ts := mw_p 47 rfl rfl
theorem tp_48 : Cond.selects "TaskCoresModel" ({ cls := "TaskCoresModel", name := "act", desc := "(IIJ)V" } : Jvm.MethodName) ({ cls := "TaskCoresModel", name := "act", desc := "(IIJ)V" } : Jvm.MethodName) ∈ md_Ts := mw_p 48 rfl rfl
theorem tp_49 : Cond.selects "TaskCoresModel" ({ cls := "TaskCoresModel", name := "chain", desc := "(II)V" } : Jvm.MethodName) ({ cls := "TaskCoresModel", name := "chain", desc := "(II)V" } : Jvm.MethodName) ∈ md_Ts := mw_p 49 rfl rfl
theorem tp_50 : Cond.selects "TaskCoresModel" ({ cls := "TaskCoresModel", name := "set", desc := "(II)Z" } : Jvm.MethodName) ({ cls := "TaskCoresModel", name := "set", desc := "(II)Z" } : Jvm.MethodName) ∈ md_Ts := mw_p 50 rfl rfl
theorem tp_51 : Cond.selects "TaskCoresModel" ({ cls := "TaskCoresModel", name := "pass", desc := "(I)V" } : Jvm.MethodName) ({ cls := "TaskCoresModel", name := "pass", desc := "(I)V" } : Jvm.MethodName) ∈ md_Ts := mw_p 51 rfl rfl
theorem tp_52 : Cond.selects "TaskCoresModel" ({ cls := "TaskCoresModel", name := "isSwitch", desc := "(II)Z" } : Jvm.MethodName) ({ cls := "TaskCoresModel", name := "isSwitch", desc := "(II)Z" } : Jvm.MethodName) ∈ md_Ts := mw_p 52 rfl rfl
def md_nest : List (String × Nat × MethodName) := [("TaskCores", 29, ({ cls := "TaskCores$Interrupts", name := "<init>", desc := "()V" } : Jvm.MethodName)), ("TaskCores", 50, ({ cls := "TaskCores$Resource", name := "<init>", desc := "()V" } : Jvm.MethodName)), ("TaskCores", 51, ({ cls := "TaskCores$Lock", name := "<init>", desc := "()V" } : Jvm.MethodName))]
