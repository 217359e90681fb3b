def mj_ref : FieldType → Bool
  | .object _ => true
  | .array _ => true
  | _ => false
/-! array classes: what the tables say of them in every state -/
/-- what a fresh place holds -/
def mj_dv : FieldType → Value
  | .object _ => .null
  | .array _ => .null
  | .long => .long 0
  | _ => .int 0
def mj_cn : FieldType → String
  | .object C => C
  | ty => ty.toString
def mj_AT (U : State) (cA : ClassId) (ty : FieldType) : Prop := ArrOfT U cA ty ∧ U.vm.findClass ("[" ++ ty.toString) = some cA ∧ (mj_ref ty = true → ∃ (kA : Class) (comp : ClassId), U.vm.classes[cA]? = some kA ∧ kA.kind = .array comp ty ∧ U.vm.findClass (mj_cn ty) = some comp ∧
  (U.vm.classes.findIdx? fun (x : Class) => match x.kind with | .array component _ => component == comp | _ => false) = some cA)
theorem mj_AT.moved {u U : State} {cA : ClassId} {ty : FieldType} (hvm : u.vm.Alike U.vm) (h : mj_AT u cA ty) : mj_AT U cA ty := by
  obtain ⟨h1, h2, h3⟩ := h
  refine ⟨arrOfT_moved hvm h1, by rw [hvm.findClass]; exact h2, fun hr => ?_⟩
  obtain ⟨kA, comp, q1, q2, q3, q4⟩ := h3 hr
  obtain ⟨k', hk', he⟩ := hvm.2.2 _ _ q1
  refine ⟨k', comp, hk', by rw [he]; exact q2, by rw [hvm.findClass]; exact q3, ?_⟩
  have key := va_idx_bare U.vm comp
  rw [show U.vm.bare = u.vm.bare from by first | exact hvm.bare_eq | exact hvm.bare_eq.symm, va_idx_bare] at key
  exact key.symm.trans q4
theorem mj_AT.over {U : State} {cA : ClassId} {ty : FieldType} {args : Array Value} (hr : mj_ref ty = true) (h : mj_AT U cA ty) : (Cond.arrayOver ty).before args U = true := by
  obtain ⟨-, h2, h3⟩ := h
  obtain ⟨kA, comp, q1, q2, q3, q4⟩ := h3 hr
  have key : ∀ nm : String, U.vm.findClass nm = some comp → ((U.vm.findClass nm).bind fun comp => (U.vm.classes.findIdx? fun (x : Class) => match x.kind with | .array component _ => component == comp | _ => false).bind fun c => (U.vm.classes[c]?).map fun (k : Class) => match k.kind with | .array _ t => decide (t = ty) && decide (U.vm.findClass ("[" ++ ty.toString) = some c) | _ => false) = some true := by
    intro nm hnm
    rw [hnm, Option.bind_some]
    refine (congrArg (fun o : Option Nat => (o.bind fun c => (U.vm.classes[c]?).map fun (k : Class) => match k.kind with | .array _ t => decide (t = ty) && decide (U.vm.findClass ("[" ++ ty.toString) = some c) | _ => false)) q4).trans ?_
    simp [q1, q2, h2]
  unfold Cond.before Cond.holds
  cases ty <;> first | (exact absurd hr Bool.false_ne_true) | skip
  · exact beq_iff_eq.mpr (key _ q3)
  · exact beq_iff_eq.mpr (key _ q3)
theorem mj_AT.ofOver {U : State} {ty : FieldType} {args : Array Value} (hr : mj_ref ty = true) (h : (Cond.arrayOver ty).before args U = true) : ∃ cA, mj_AT U cA ty := by
  cases ty <;> first | (exact absurd hr Bool.false_ne_true) | skip
  · obtain ⟨comp, c, k, h1, h2, h3, h4, h5⟩ := Cond.arrayOver_spec h
    exact ⟨c, fun n z => ⟨fun q h => (by cases h), k, h3, comp, h4⟩, h5, fun _ => ⟨k, comp, h3, h4, h1, h2⟩⟩
  · obtain ⟨comp, c, k, h1, h2, h3, h4, h5⟩ := arrayOverA_spec h
    exact ⟨c, fun n z => ⟨fun q h => (by cases h), k, h3, comp, h4⟩, h5, fun _ => ⟨k, comp, h3, h4, h1, h2⟩⟩
/-- the names of the class's tables -/
def mj_snm : Nat → String
  | 0 => "LEAST_VALUE"
  | _ => "MOST_VALUE"
/-- what holds of the old arrays, of the statics that hold two of them, and of the links to private constructors -/
def mj_SK (o : Nat → Nat × Nat × (Nat → Int32)) (Z : Heap) (U : State) : Prop :=
  (∀ j, j < 3 → va_T .int (o j).1 (o j).2.1 (fun k => .int ((o j).2.2 k)) (fun q => Z.size ≤ q) U Z) ∧ (∀ j, j < 2 → va_Z "TaskCores" (mj_snm j) "[I" (.ref (o j).1) (fun q => Z.size ≤ q) U Z) ∧ ∀ q ∈ md_nest, va_Nw (.methodLinkNest q.1 q.2.1 q.2.2 "TaskCores") U
/-! The memory: a tag to each address (0 nothing, ci+1 an object of class ci, 1000+t an array of kind t), ints, references, longs by address and place, lengths of arrays -/
abbrev mj_MM : Type := (Nat → Nat) × (Nat → Nat → Int32) × (Nat → Nat → Option Nat) × (Nat → Nat → Int64) × (Nat → Nat) × Nat × Nat
def mj_t (μ : mj_MM) (a : Nat) : Nat := μ.1 a
def mj_i (μ : mj_MM) (a k : Nat) : Int32 := μ.2.1 a k
def mj_r (μ : mj_MM) (a k : Nat) : Option Nat := μ.2.2.1 a k
def mj_l (μ : mj_MM) (a k : Nat) : Int64 := μ.2.2.2.1 a k
def mj_n (μ : mj_MM) (a : Nat) : Nat := μ.2.2.2.2.1 a
/-- cells and slots made so far -/
def mj_nc (μ : mj_MM) : Nat := μ.2.2.2.2.2.1
def mj_ns (μ : mj_MM) : Nat := μ.2.2.2.2.2.2
def mj_u {α : Type} (f : Nat → Nat → α) (a k : Nat) (x : α) : Nat → Nat → α := fun b j => if j = k then (if b = a then x else f b j) else f b j
def mj_pI (μ : mj_MM) (a k : Nat) (x : Int32) : mj_MM := (μ.1, mj_u μ.2.1 a k x, μ.2.2)
def mj_pR (μ : mj_MM) (a k : Nat) (x : Option Nat) : mj_MM := (μ.1, μ.2.1, mj_u μ.2.2.1 a k x, μ.2.2.2)
def mj_pL (μ : mj_MM) (a k : Nat) (x : Int64) : mj_MM := (μ.1, μ.2.1, μ.2.2.1, mj_u μ.2.2.2.1 a k x, μ.2.2.2.2)
def mj_w {α : Type} (f : Nat → α) (a : Nat) (x : α) : Nat → α := fun b => if b = a then x else f b
/-- a new object or array: tag, all places empty, its length, its slots -/
def mj_new (μ : mj_MM) (a t n k : Nat) : mj_MM := (mj_w μ.1 a t, mj_w μ.2.1 a (fun _ => 0), mj_w μ.2.2.1 a (fun _ => none), mj_w μ.2.2.2.1 a (fun _ => 0), mj_w μ.2.2.2.2.1 a n, μ.2.2.2.2.2.1 + 1, μ.2.2.2.2.2.2 + k)
theorem mj_u_self {α : Type} (f : Nat → Nat → α) (a k : Nat) (x : α) : mj_u f a k x a k = x := by simp [mj_u]
theorem mj_u_ne {α : Type} (f : Nat → Nat → α) {a k b j : Nat} (x : α) (h : ¬ (b = a ∧ j = k)) : mj_u f a k x b j = f b j := by
  unfold mj_u
  by_cases h1 : j = k
  · by_cases h2 : b = a
    · exact absurd ⟨h2, h1⟩ h
    · simp [h1, h2]
  · simp [h1]
theorem mj_u_apart {α : Type} (f : Nat → Nat → α) {a k b j : Nat} (x : α) (h : b ≠ a) : mj_u f a k x b j = f b j := mj_u_ne f x (fun q => h q.1)
theorem mj_u_row {α : Type} (f : Nat → Nat → α) {a k b : Nat} (x : α) (h : b ≠ a) : mj_u f a k x b = f b := funext fun _ => mj_u_apart f x h
/-- what a place of a type shows -/
def mj_val (ty : FieldType) (μ : mj_MM) (a k : Nat) : Value := match ty with
  | .object _ => va_rf (mj_r μ a k)
  | .array _ => va_rf (mj_r μ a k)
  | .long => .long (mj_l μ a k)
  | _ => .int (mj_i μ a k)
def mj_arr (ty : FieldType) (μ : mj_MM) (a : Nat) : vp_A := match ty with
  | .object _ => (mj_n μ a, .inr (.inr (.inr (.inr (mj_r μ a)))))
  | .array _ => (mj_n μ a, .inr (.inr (.inr (.inr (mj_r μ a)))))
  | .long => (mj_n μ a, .inr (.inl (mj_l μ a)))
  | _ => (mj_n μ a, .inl (mj_i μ a))
/-- the launch; classes' numbers and slots; array classes' numbers, and the old arrays (where, how long, what: 0 and 1 the class's tables, 2 the script); the heap at the law's entry -/
abbrev mj_G : Type := Launch × va_G × ((Nat → ClassId) × (Nat → Nat × Nat × (Nat → Int32))) × Heap
/-- a method: its class, code, locals, frames and words that its calls need, what it returns, is it a constructor -/
abbrev mj_Y : Type := String × ByteArray × Nat × Nat × Nat × Option FieldType × Bool
/-- the world: what lay there at the law's entry (G.2.2.2) is as it was; the memory's objects and arrays lie behind it -/
def mj_W (G : mj_G) (μ : mj_MM) (H : Heap) : Prop :=
  G.2.2.2.size ≤ H.size ∧ (∀ q : Nat, q < G.2.2.2.size → H[q]? = G.2.2.2[q]?) ∧ (∀ a : Nat, mj_t μ a ≠ 0 → G.2.2.2.size ≤ a ∧ a < H.size) ∧
  (∀ a ci : Nat, ci < 500 → mj_t μ a = ci + 1 → ∃ r : vw_C, md_cl[ci]? = some r ∧ t_OB a (G.2.1.1 ci) r.2.2 (G.2.1.2 ci) H (fun k => mj_val (md_ty ci k) μ a k)) ∧
  (∀ a t : Nat, mj_t μ a = 1000 + t → ∃ ty : FieldType, md_at[t]? = some ty ∧ H[a]? = some (vp_cell (G.2.2.1.1 t) (mj_arr ty μ a)))
/-- what holds of the tables in every state -/
def mj_K (G : mj_G) (U : State) : Prop := va_K G.2.1 md_cl [] U ∧ (∀ (t : Nat) (ty : FieldType), md_at[t]? = some ty → mj_AT U (G.2.2.1.1 t) ty) ∧ mj_SK G.2.2.1.2 G.2.2.2 U
theorem mj_K.warm {G : mj_G} {u U : State} (hW : u.WarmedH U.vm) (h : mj_K G u) : mj_K G U := ⟨va_K.moved hW.alike h.1, fun t ty q => mj_AT.moved hW.alike (h.2.1 t ty q), fun j hj => va_T.moved hW.alike (h.2.2.1 j hj), fun j hj => va_Z.moved hW.alike (h.2.2.2.1 j hj), fun q hq => va_Nw.warmM hW (h.2.2.2.2 q hq)⟩
theorem mj_K.same {G : mj_G} {u U : State} (hv : u.vm = U.vm) (h : mj_K G u) : mj_K G U := by
  have ha : u.vm.Alike U.vm := by rw [hv]; exact Vm.Alike.refl _
  exact ⟨va_K.moved ha h.1, fun t ty q => mj_AT.moved ha (h.2.1 t ty q), fun j hj => va_T.moved ha (h.2.2.1 j hj), fun j hj => va_Z.moved ha (h.2.2.2.1 j hj), fun q hq => va_Nw.same rfl hv (h.2.2.2.2 q hq)⟩
def mj_ret (cc : ByteArray) (pc : Nat) (rt : Option FieldType) (v : Option Value) : Prop :=
  (v = none ∧ rt = none ∧ decode cc pc = .ok (.return_, 1)) ∨ (∃ (x : Int32) (ty : FieldType), v = some (.int x) ∧ rt = some ty ∧ narrow ty (.int x) = .int x ∧ decode cc pc = .ok (.ireturn, 1)) ∨
  (∃ x : Int64, v = some (.long x) ∧ rt = some .long ∧ decode cc pc = .ok (.lreturn, 1)) ∨ (∃ (r : Option Nat) (ty : FieldType), v = some (va_rf r) ∧ rt = some ty ∧ ((∃ n, ty = .object n) ∨ ∃ t, ty = .array t) ∧ decode cc pc = .ok (.areturn, 1))
def mj_C (G : mj_G) (Y : mj_Y) (Ex : Option Value → mj_MM → Prop) (p : Program) (e : Env) (R : Room) (s : State) (m : MethodId) (args : Array Value) (below : List Frame) (meth : Method) (c : Code) (Q : State → Prop) : Prop :=
  p.tables.exec = Jvm.exec ∧ c.code = Y.2.1 ∧ c.maxLocals = Y.2.2.1 ∧ s.vm.findClass Y.1 = some m.cls ∧ (∀ w ∈ md_Ts, w.before args s = true) ∧ mj_K G s ∧ Y.2.2.2.1 ≤ R.frames ∧ Y.2.2.2.2.1 ≤ R.locals ∧ (Y.2.2.2.2.2.2 = true → meth.name = "<init>") ∧
  ∀ (H : Heap) (locs : List Loc) (cells slots pc : Nat) (ls : Array Slot) (v : Option Value) (μ : mj_MM), mj_W G μ H → (∀ q ∈ locs, G.2.2.2.size ≤ q.base) → cells ≤ R.cells → slots ≤ R.slots → Ex v μ → mj_ret Y.2.1 pc Y.2.2.2.2.2.1 v → W p G.1 e R s m args below meth c H locs cells slots Q (F0 m pc ls v.toList)
/-- THE JUDGEMENT: from pc, with these locals, this stack, this memory, the method comes to its end with Ex, N cells and S slots made by then in all -/
def mj_J (G : mj_G) (Y : mj_Y) (Ex : Option Value → mj_MM → Prop) (N S pc : Nat) (lv : List (Nat × Value)) (st : List Value) (μ : mj_MM) : Prop :=
  ∀ (p : Program) (e : Env) (R : Room) (s : State) (m : MethodId) (args : Array Value) (below : List Frame) (meth : Method) (c : Code) (Q : State → Prop), mj_C G Y Ex p e R s m args below meth c Q →
  ∀ (H : Heap) (locs : List Loc) (cells slots : Nat) (ls : Array Slot), mj_W G μ H → (∀ q ∈ locs, G.2.2.2.size ≤ q.base) → mj_nc μ ≤ N ∧ mj_ns μ ≤ S → cells + (N - mj_nc μ) ≤ R.cells → slots + (S - mj_ns μ) ≤ R.slots → lv_has ls Y.2.2.1 lv →
  W p G.1 e R s m args below meth c H locs cells slots Q (F0 m pc ls st)
/-- a method's contract at one memory and one row of arguments -/
def mj_M (G : mj_G) (y : MethodName) (Y : mj_Y) (as : List Value) (N S : Nat) (μ : mj_MM) (Ex : Option Value → mj_MM → Prop) : Prop :=
  (mj_nc μ ≤ N ∧ mj_ns μ ≤ S) ∧ Met G.1 y (Cond.code y Y.2.1 Y.2.2.1 Y.2.2.2.2.2.1 :: md_Ts) ({ frames := Y.2.2.2.1, cells := N - mj_nc μ, slots := S - mj_ns μ, locals := Y.2.2.2.2.1 }) (va_Pc as (fun U => mj_W G μ U.heap ∧ mj_K G U)) (fun _ _ o t => ∃ (v : Option Value) (μ' : mj_MM), o = .returned v ∧ (Ex v μ' ∧ mj_nc μ' = N ∧ mj_ns μ' = S) ∧ mj_W G μ' t.heap) (N - mj_nc μ) (S - mj_ns μ) (fun q => G.2.2.2.size ≤ q)
def mj_XV (P : mj_MM → Prop) : Option Value → mj_MM → Prop := fun v μ => v = none ∧ P μ
def mj_XI (P : Int32 → mj_MM → Prop) : Option Value → mj_MM → Prop := fun v μ => ∃ x : Int32, v = some (.int x) ∧ P x μ
def mj_XL (P : Int64 → mj_MM → Prop) : Option Value → mj_MM → Prop := fun v μ => ∃ x : Int64, v = some (.long x) ∧ P x μ
def mj_XR (P : Option Nat → mj_MM → Prop) : Option Value → mj_MM → Prop := fun v μ => ∃ x : Option Nat, v = some (va_rf x) ∧ P x μ
section MJ
variable {G : mj_G} {Y : mj_Y} {Ex : Option Value → mj_MM → Prop} {N S pc : Nat} {lv : List (Nat × Value)} {st : List Value} {μ : mj_MM}
theorem mj_of {y : MethodName} {as : List Value} (hp : plainName y.cls = true) (ho : y.cls = Y.1) (hi : (Y.2.2.2.2.2.2 = true → y.name = "<init>")) (hn : (lg_sl as).length ≤ Y.2.2.1) (hlv : lv_args 0 as = lv) (hb : mj_nc μ ≤ N ∧ mj_ns μ ≤ S)
    (kk : mj_J G Y (fun v μ' => Ex v μ' ∧ mj_nc μ' = N ∧ mj_ns μ' = S) N S 0 lv [] μ) : mj_M G y Y as N S μ Ex := by
  refine ⟨hb, ?_⟩
  refine Met.ofW (cc := Y.2.1) (maxL := Y.2.2.1) (ret := Y.2.2.2.2.2.1) hp rfl ?_
  intro p e s m args below meth c s₁ B hml hv
  obtain ⟨rfl, hw, hK⟩ := hv
  rw [lg_entry_eq]
  have hlocks := B.notSynchronized
  have hr := B.returns
  refine kk p e _ s m _ below meth c _ ⟨B.exec, B.bytes, hml, by rw [← ho]; exact findClass_of_methodNamed B.named, fun w h => atoms_spec B.pre w (List.mem_cons_of_mem _ h), hK, Nat.le_refl _, Nat.le_refl _, fun h => ((name_of_methodNamed B.named B.method).1).trans (hi h), ?_⟩ s.heap [] 0 0 _ hw (fun q h => by cases h) hb (by simp [headSpec]) (by simp [headSpec]) (hlv ▸ lv_entry as hn)
  intro H locs cells slots pc ls v μ' hw' hL hc hs hE hret
  refine W.widen (k := N - mj_nc μ) (n := S - mj_ns μ) hc hs ?_
  rcases hret with ⟨rfl, h1, h2⟩ | ⟨x, ty, rfl, h1, h2, h3⟩ | ⟨x, rfl, h1, h2⟩ | ⟨r, ty, rfl, h1, h2, h3⟩
  · exact W.vret B.exec B.bytes (hr.trans h1) (fun t ht _ => ⟨none, μ', rfl, hE, by rw [ht]; exact hw'⟩) hL h2
  · exact W.zret B.exec B.bytes (hr.trans h1) h2 (fun t ht _ => ⟨some (.int x), μ', rfl, hE, by rw [ht]; exact hw'⟩) hL h3
  · exact W.lret B.exec B.bytes (hr.trans h1) (fun t ht _ => ⟨some (.long x), μ', rfl, hE, by rw [ht]; exact hw'⟩) hL h2
  · exact W.aret B.exec B.bytes (hr.trans h1) h2 (by cases r with | none => exact Or.inl rfl | some a => exact Or.inr ⟨a, rfl⟩) (fun t ht _ => ⟨some (va_rf r), μ', rfl, hE, by rw [ht]; exact hw'⟩) hL h3
theorem mj_M.weaken {y : MethodName} {as : List Value} {Ex' : Option Value → mj_MM → Prop} (h : mj_M G y Y as N S μ Ex) (hE : ∀ v μ', Ex v μ' → mj_nc μ' = N → mj_ns μ' = S → Ex' v μ') : mj_M G y Y as N S μ Ex' := by
  refine ⟨h.1, ?_⟩
  intro p e h1 h2 h3 s m args below h4 h5 h6 h7
  obtain ⟨k, o, q1, q2, q3, ⟨v, μ', r1, r2, r3⟩, q5⟩ := h.2 p e h1 h2 h3 s m args below h4 h5 h6 h7
  exact ⟨k, o, q1, q2, q3, ⟨v, μ', r1, ⟨hE _ _ r2.1 r2.2.1 r2.2.2, r2.2⟩, r3⟩, q5⟩
theorem mj_lvs {lv' : List (Nat × Value)} (ks : List Nat) (hk : lv_pick lv ks = lv') (kk : mj_J G Y Ex N S pc lv' st μ) : mj_J G Y Ex N S pc lv st μ := by
  intro p e R s m args below meth c Q C H locs cells slots ls hw hL hb hc hs hl
  exact kk p e R s m args below meth c Q C H locs cells slots ls hw hL hb hc hs (lv_sub hl ks hk)
theorem mj_Exw {Ex' : Option Value → mj_MM → Prop} (hE : ∀ v μ', Ex' v μ' → Ex v μ') (kk : mj_J G Y Ex' N S pc lv st μ) : mj_J G Y Ex N S pc lv st μ := by
  intro p e R s m args below meth c Q C H locs cells slots ls hw hL hb hc hs hl
  exact kk p e R s m args below meth c Q ⟨C.1, C.2.1, C.2.2.1, C.2.2.2.1, C.2.2.2.2.1, C.2.2.2.2.2.1, C.2.2.2.2.2.2.1, C.2.2.2.2.2.2.2.1, C.2.2.2.2.2.2.2.2.1, fun H locs cells slots pc ls v μ a1 a2 a3 a4 a5 a6 => C.2.2.2.2.2.2.2.2.2 H locs cells slots pc ls v μ a1 a2 a3 a4 (hE v μ a5) a6⟩ H locs cells slots ls hw hL hb hc hs hl
theorem mj_iadd {x y : Int32} (hdg : decode Y.2.1 pc = .ok (.iadd, 1)) (kk : mj_J G Y Ex N S (pc + 1) lv (.int (x + y) :: st) μ) : mj_J G Y Ex N S pc lv (.int y :: .int x :: st) μ := by
  intro p e R s m args below meth c Q C H locs cells slots ls hw hL hb hc hs hl
  exact lv_iadd C.1 C.2.1 hdg (kk p e R s m args below meth c Q C H locs cells slots ls hw hL hb hc hs hl)
theorem mj_isub {x y : Int32} (hdg : decode Y.2.1 pc = .ok (.isub, 1)) (kk : mj_J G Y Ex N S (pc + 1) lv (.int (x - y) :: st) μ) : mj_J G Y Ex N S pc lv (.int y :: .int x :: st) μ := by
  intro p e R s m args below meth c Q C H locs cells slots ls hw hL hb hc hs hl
  exact lv_isub C.1 C.2.1 hdg (kk p e R s m args below meth c Q C H locs cells slots ls hw hL hb hc hs hl)
theorem mj_imul {x y : Int32} (hdg : decode Y.2.1 pc = .ok (.imul, 1)) (kk : mj_J G Y Ex N S (pc + 1) lv (.int (x * y) :: st) μ) : mj_J G Y Ex N S pc lv (.int y :: .int x :: st) μ := by
  intro p e R s m args below meth c Q C H locs cells slots ls hw hL hb hc hs hl
  exact lv_imul C.1 C.2.1 hdg (kk p e R s m args below meth c Q C H locs cells slots ls hw hL hb hc hs hl)
theorem mj_iand {x y : Int32} (hdg : decode Y.2.1 pc = .ok (.iand, 1)) (kk : mj_J G Y Ex N S (pc + 1) lv (.int (x &&& y) :: st) μ) : mj_J G Y Ex N S pc lv (.int y :: .int x :: st) μ := by
  intro p e R s m args below meth c Q C H locs cells slots ls hw hL hb hc hs hl
  exact lv_iand C.1 C.2.1 hdg (kk p e R s m args below meth c Q C H locs cells slots ls hw hL hb hc hs hl)
theorem mj_ior {x y : Int32} (hdg : decode Y.2.1 pc = .ok (.ior, 1)) (kk : mj_J G Y Ex N S (pc + 1) lv (.int (x ||| y) :: st) μ) : mj_J G Y Ex N S pc lv (.int y :: .int x :: st) μ := by
  intro p e R s m args below meth c Q C H locs cells slots ls hw hL hb hc hs hl
  exact lv_ior C.1 C.2.1 hdg (kk p e R s m args below meth c Q C H locs cells slots ls hw hL hb hc hs hl)
theorem mj_ixor {x y : Int32} (hdg : decode Y.2.1 pc = .ok (.ixor, 1)) (kk : mj_J G Y Ex N S (pc + 1) lv (.int (x ^^^ y) :: st) μ) : mj_J G Y Ex N S pc lv (.int y :: .int x :: st) μ := by
  intro p e R s m args below meth c Q C H locs cells slots ls hw hL hb hc hs hl
  exact lv_ixor C.1 C.2.1 hdg (kk p e R s m args below meth c Q C H locs cells slots ls hw hL hb hc hs hl)
theorem mj_ladd {x y : Int64} (hdg : decode Y.2.1 pc = .ok (.ladd, 1)) (kk : mj_J G Y Ex N S (pc + 1) lv (.long (x + y) :: st) μ) : mj_J G Y Ex N S pc lv (.long y :: .long x :: st) μ := by
  intro p e R s m args below meth c Q C H locs cells slots ls hw hL hb hc hs hl
  exact lv_ladd C.1 C.2.1 hdg (kk p e R s m args below meth c Q C H locs cells slots ls hw hL hb hc hs hl)
theorem mj_lsub {x y : Int64} (hdg : decode Y.2.1 pc = .ok (.lsub, 1)) (kk : mj_J G Y Ex N S (pc + 1) lv (.long (x - y) :: st) μ) : mj_J G Y Ex N S pc lv (.long y :: .long x :: st) μ := by
  intro p e R s m args below meth c Q C H locs cells slots ls hw hL hb hc hs hl
  exact lv_lsub C.1 C.2.1 hdg (kk p e R s m args below meth c Q C H locs cells slots ls hw hL hb hc hs hl)
theorem mj_lmul {x y : Int64} (hdg : decode Y.2.1 pc = .ok (.lmul, 1)) (kk : mj_J G Y Ex N S (pc + 1) lv (.long (x * y) :: st) μ) : mj_J G Y Ex N S pc lv (.long y :: .long x :: st) μ := by
  intro p e R s m args below meth c Q C H locs cells slots ls hw hL hb hc hs hl
  exact lv_lmul C.1 C.2.1 hdg (kk p e R s m args below meth c Q C H locs cells slots ls hw hL hb hc hs hl)
theorem mj_land {x y : Int64} (hdg : decode Y.2.1 pc = .ok (.land, 1)) (kk : mj_J G Y Ex N S (pc + 1) lv (.long (x &&& y) :: st) μ) : mj_J G Y Ex N S pc lv (.long y :: .long x :: st) μ := by
  intro p e R s m args below meth c Q C H locs cells slots ls hw hL hb hc hs hl
  exact lv_land C.1 C.2.1 hdg (kk p e R s m args below meth c Q C H locs cells slots ls hw hL hb hc hs hl)
theorem mj_lor {x y : Int64} (hdg : decode Y.2.1 pc = .ok (.lor, 1)) (kk : mj_J G Y Ex N S (pc + 1) lv (.long (x ||| y) :: st) μ) : mj_J G Y Ex N S pc lv (.long y :: .long x :: st) μ := by
  intro p e R s m args below meth c Q C H locs cells slots ls hw hL hb hc hs hl
  exact lv_lor C.1 C.2.1 hdg (kk p e R s m args below meth c Q C H locs cells slots ls hw hL hb hc hs hl)
theorem mj_lxor {x y : Int64} (hdg : decode Y.2.1 pc = .ok (.lxor, 1)) (kk : mj_J G Y Ex N S (pc + 1) lv (.long (x ^^^ y) :: st) μ) : mj_J G Y Ex N S pc lv (.long y :: .long x :: st) μ := by
  intro p e R s m args below meth c Q C H locs cells slots ls hw hL hb hc hs hl
  exact lv_lxor C.1 C.2.1 hdg (kk p e R s m args below meth c Q C H locs cells slots ls hw hL hb hc hs hl)
theorem mj_idiv {x y : Int32} (hdg : decode Y.2.1 pc = .ok (.idiv, 1)) (hy : ¬ y = 0) (kk : mj_J G Y Ex N S (pc + 1) lv (.int (x / y) :: st) μ) : mj_J G Y Ex N S pc lv (.int y :: .int x :: st) μ := by
  intro p e R s m args below meth c Q C H locs cells slots ls hw hL hb hc hs hl
  exact lv_idiv C.1 C.2.1 hdg hy (kk p e R s m args below meth c Q C H locs cells slots ls hw hL hb hc hs hl)
theorem mj_irem {x y : Int32} (hdg : decode Y.2.1 pc = .ok (.irem, 1)) (hy : ¬ y = 0) (kk : mj_J G Y Ex N S (pc + 1) lv (.int (x - x / y * y) :: st) μ) : mj_J G Y Ex N S pc lv (.int y :: .int x :: st) μ := by
  intro p e R s m args below meth c Q C H locs cells slots ls hw hL hb hc hs hl
  exact lv_irem C.1 C.2.1 hdg hy (kk p e R s m args below meth c Q C H locs cells slots ls hw hL hb hc hs hl)
theorem mj_ldiv {x y : Int64} (hdg : decode Y.2.1 pc = .ok (.ldiv, 1)) (hy : ¬ y = 0) (kk : mj_J G Y Ex N S (pc + 1) lv (.long (x / y) :: st) μ) : mj_J G Y Ex N S pc lv (.long y :: .long x :: st) μ := by
  intro p e R s m args below meth c Q C H locs cells slots ls hw hL hb hc hs hl
  exact lv_ldiv C.1 C.2.1 hdg hy (kk p e R s m args below meth c Q C H locs cells slots ls hw hL hb hc hs hl)
theorem mj_lrem {x y : Int64} (hdg : decode Y.2.1 pc = .ok (.lrem, 1)) (hy : ¬ y = 0) (kk : mj_J G Y Ex N S (pc + 1) lv (.long (x - x / y * y) :: st) μ) : mj_J G Y Ex N S pc lv (.long y :: .long x :: st) μ := by
  intro p e R s m args below meth c Q C H locs cells slots ls hw hL hb hc hs hl
  exact lv_lrem C.1 C.2.1 hdg hy (kk p e R s m args below meth c Q C H locs cells slots ls hw hL hb hc hs hl)
theorem mj_ineg {x : Int32} (hdg : decode Y.2.1 pc = .ok (.ineg, 1)) (kk : mj_J G Y Ex N S (pc + 1) lv (.int (-x) :: st) μ) : mj_J G Y Ex N S pc lv (.int x :: st) μ := by
  intro p e R s m args below meth c Q C H locs cells slots ls hw hL hb hc hs hl
  exact lv_ineg C.1 C.2.1 hdg (kk p e R s m args below meth c Q C H locs cells slots ls hw hL hb hc hs hl)
theorem mj_lneg {x : Int64} (hdg : decode Y.2.1 pc = .ok (.lneg, 1)) (kk : mj_J G Y Ex N S (pc + 1) lv (.long (-x) :: st) μ) : mj_J G Y Ex N S pc lv (.long x :: st) μ := by
  intro p e R s m args below meth c Q C H locs cells slots ls hw hL hb hc hs hl
  exact lv_lneg C.1 C.2.1 hdg (kk p e R s m args below meth c Q C H locs cells slots ls hw hL hb hc hs hl)
theorem mj_i2l {x : Int32} (hdg : decode Y.2.1 pc = .ok (.i2l, 1)) (kk : mj_J G Y Ex N S (pc + 1) lv (.long (x.toInt64) :: st) μ) : mj_J G Y Ex N S pc lv (.int x :: st) μ := by
  intro p e R s m args below meth c Q C H locs cells slots ls hw hL hb hc hs hl
  exact lv_i2l C.1 C.2.1 hdg rfl (kk p e R s m args below meth c Q C H locs cells slots ls hw hL hb hc hs hl)
theorem mj_l2i {x : Int64} (hdg : decode Y.2.1 pc = .ok (.l2i, 1)) (kk : mj_J G Y Ex N S (pc + 1) lv (.int (x.toInt32) :: st) μ) : mj_J G Y Ex N S pc lv (.long x :: st) μ := by
  intro p e R s m args below meth c Q C H locs cells slots ls hw hL hb hc hs hl
  exact lv_l2i C.1 C.2.1 hdg rfl (kk p e R s m args below meth c Q C H locs cells slots ls hw hL hb hc hs hl)
theorem mj_i2s {x : Int32} (hdg : decode Y.2.1 pc = .ok (.i2s, 1)) (kk : mj_J G Y Ex N S (pc + 1) lv (.int x.toInt16.toInt32 :: st) μ) : mj_J G Y Ex N S pc lv (.int x :: st) μ := by
  intro p e R s m args below meth c Q C H locs cells slots ls hw hL hb hc hs hl
  exact lv_i2s C.1 C.2.1 hdg rfl (kk p e R s m args below meth c Q C H locs cells slots ls hw hL hb hc hs hl)
theorem mj_ishl {x y : Int32} (hdg : decode Y.2.1 pc = .ok (.ishl, 1)) (kk : mj_J G Y Ex N S (pc + 1) lv (.int (x <<< (y &&& 31)) :: st) μ) : mj_J G Y Ex N S pc lv (.int y :: .int x :: st) μ := by
  intro p e R s m args below meth c Q C H locs cells slots ls hw hL hb hc hs hl
  exact lv_ishl C.1 C.2.1 hdg (kk p e R s m args below meth c Q C H locs cells slots ls hw hL hb hc hs hl)
theorem mj_ishr {x y : Int32} (hdg : decode Y.2.1 pc = .ok (.ishr, 1)) (kk : mj_J G Y Ex N S (pc + 1) lv (.int (x >>> (y &&& 31)) :: st) μ) : mj_J G Y Ex N S pc lv (.int y :: .int x :: st) μ := by
  intro p e R s m args below meth c Q C H locs cells slots ls hw hL hb hc hs hl
  exact lv_ishr C.1 C.2.1 hdg (kk p e R s m args below meth c Q C H locs cells slots ls hw hL hb hc hs hl)
theorem mj_lshl {x : Int64} {y : Int32} (hdg : decode Y.2.1 pc = .ok (.lshl, 1)) (kk : mj_J G Y Ex N S (pc + 1) lv (.long (x <<< (y.toInt64 &&& 63)) :: st) μ) : mj_J G Y Ex N S pc lv (.int y :: .long x :: st) μ := by
  intro p e R s m args below meth c Q C H locs cells slots ls hw hL hb hc hs hl
  exact lv_lshl C.1 C.2.1 hdg rfl (kk p e R s m args below meth c Q C H locs cells slots ls hw hL hb hc hs hl)
theorem mj_lshr {x : Int64} {y : Int32} (hdg : decode Y.2.1 pc = .ok (.lshr, 1)) (kk : mj_J G Y Ex N S (pc + 1) lv (.long (x >>> (y.toInt64 &&& 63)) :: st) μ) : mj_J G Y Ex N S pc lv (.int y :: .long x :: st) μ := by
  intro p e R s m args below meth c Q C H locs cells slots ls hw hL hb hc hs hl
  exact lv_lshr C.1 C.2.1 hdg rfl (kk p e R s m args below meth c Q C H locs cells slots ls hw hL hb hc hs hl)
theorem mj_lcmp {x y : Int64} (hdg : decode Y.2.1 pc = .ok (.lcmp, 1)) (kk : mj_J G Y Ex N S (pc + 1) lv (.int (lg_cmp x y) :: st) μ) : mj_J G Y Ex N S pc lv (.long y :: .long x :: st) μ := by
  intro p e R s m args below meth c Q C H locs cells slots ls hw hL hb hc hs hl
  exact W.lcmp C.1 C.2.1 hdg (kk p e R s m args below meth c Q C H locs cells slots ls hw hL hb hc hs hl)
theorem mj_iconst {n : Int} {v : Int32} (hdg : decode Y.2.1 pc = .ok (.iconst n, 1)) (hv : Int32.ofInt n = v) (kk : mj_J G Y Ex N S (pc + 1) lv (.int v :: st) μ) : mj_J G Y Ex N S pc lv st μ := by
  intro p e R s m args below meth c Q C H locs cells slots ls hw hL hb hc hs hl
  exact lv_iconst C.1 C.2.1 hdg hv (kk p e R s m args below meth c Q C H locs cells slots ls hw hL hb hc hs hl)
theorem mj_bipush {n : Int} {v : Int32} (hdg : decode Y.2.1 pc = .ok (.bipush n, 2)) (hv : (Int8.ofInt n).toInt32 = v) (kk : mj_J G Y Ex N S (pc + 2) lv (.int v :: st) μ) : mj_J G Y Ex N S pc lv st μ := by
  intro p e R s m args below meth c Q C H locs cells slots ls hw hL hb hc hs hl
  exact lv_bipush C.1 C.2.1 hdg hv (kk p e R s m args below meth c Q C H locs cells slots ls hw hL hb hc hs hl)
theorem mj_sipush {n : Int} {v : Int32} (hdg : decode Y.2.1 pc = .ok (.sipush n, 3)) (hv : (Int16.ofInt n).toInt32 = v) (kk : mj_J G Y Ex N S (pc + 3) lv (.int v :: st) μ) : mj_J G Y Ex N S pc lv st μ := by
  intro p e R s m args below meth c Q C H locs cells slots ls hw hL hb hc hs hl
  exact lv_sipush C.1 C.2.1 hdg hv (kk p e R s m args below meth c Q C H locs cells slots ls hw hL hb hc hs hl)
theorem mj_lconst {n : Fin 2} {v : Int64} (hdg : decode Y.2.1 pc = .ok (.lconst n, 1)) (hv : Int64.ofNat (n : Nat) = v) (kk : mj_J G Y Ex N S (pc + 1) lv (.long v :: st) μ) : mj_J G Y Ex N S pc lv st μ := by
  intro p e R s m args below meth c Q C H locs cells slots ls hw hL hb hc hs hl
  exact lv_lconst C.1 C.2.1 hdg hv (kk p e R s m args below meth c Q C H locs cells slots ls hw hL hb hc hs hl)
theorem mj_null (hdg : decode Y.2.1 pc = .ok (.aconst_null, 1)) (kk : mj_J G Y Ex N S (pc + 1) lv (va_rf none :: st) μ) : mj_J G Y Ex N S pc lv st μ := by
  intro p e R s m args below meth c Q C H locs cells slots ls hw hL hb hc hs hl
  exact lv_null C.1 C.2.1 hdg (kk p e R s m args below meth c Q C H locs cells slots ls hw hL hb hc hs hl)
theorem mj_ldc {index : Nat} {v : Int32} (hw0 : Cond.constant Y.1 index v ∈ md_Ts) (hdg : decode Y.2.1 pc = .ok (.ldc index, 2)) (kk : mj_J G Y Ex N S (pc + 2) lv (.int v :: st) μ) : mj_J G Y Ex N S pc lv st μ := by
  intro p e R s m args below meth c Q C H locs cells slots ls hw hL hb hc hs hl
  exact lv_ldc C.1 C.2.1 C.2.2.2.1 (C.2.2.2.2.1 _ hw0) hdg (kk p e R s m args below meth c Q C H locs cells slots ls hw hL hb hc hs hl)
theorem mj_ldcw {index : Nat} {v : Int32} (hw0 : Cond.constant Y.1 index v ∈ md_Ts) (hdg : decode Y.2.1 pc = .ok (.ldc_w index, 3)) (kk : mj_J G Y Ex N S (pc + 3) lv (.int v :: st) μ) : mj_J G Y Ex N S pc lv st μ := by
  intro p e R s m args below meth c Q C H locs cells slots ls hw hL hb hc hs hl
  exact lv_ldcw C.1 C.2.1 C.2.2.2.1 (C.2.2.2.2.1 _ hw0) hdg (kk p e R s m args below meth c Q C H locs cells slots ls hw hL hb hc hs hl)
theorem mj_ldc2 {index : Nat} {v : Int64} (hw0 : Cond.constantLong Y.1 index v ∈ md_Ts) (hdg : decode Y.2.1 pc = .ok (.ldc2_w index, 3)) (kk : mj_J G Y Ex N S (pc + 3) lv (.long v :: st) μ) : mj_J G Y Ex N S pc lv st μ := by
  intro p e R s m args below meth c Q C H locs cells slots ls hw hL hb hc hs hl
  exact lv_ldc2 C.1 C.2.1 C.2.2.2.1 (C.2.2.2.2.1 _ hw0) hdg (kk p e R s m args below meth c Q C H locs cells slots ls hw hL hb hc hs hl)
theorem mj_rfc (r : Option Nat) : (va_rf r).category = 1 := by cases r <;> rfl
theorem mj_dup {va : Value} (hdg : decode Y.2.1 pc = .ok (.dup, 1)) (hva : va.category = 1) (kk : mj_J G Y Ex N S (pc + 1) lv (va :: va :: st) μ) : mj_J G Y Ex N S pc lv (va :: st) μ := by
  intro p e R s m args below meth c Q C H locs cells slots ls hw hL hb hc hs hl
  exact lv_dup C.1 C.2.1 hdg hva (kk p e R s m args below meth c Q C H locs cells slots ls hw hL hb hc hs hl)
theorem mj_pop {va : Value} (hdg : decode Y.2.1 pc = .ok (.pop, 1)) (hva : va.category = 1) (kk : mj_J G Y Ex N S (pc + 1) lv st μ) : mj_J G Y Ex N S pc lv (va :: st) μ := by
  intro p e R s m args below meth c Q C H locs cells slots ls hw hL hb hc hs hl
  exact lv_pop C.1 C.2.1 hdg hva (kk p e R s m args below meth c Q C H locs cells slots ls hw hL hb hc hs hl)
theorem mj_pop2 {va : Value} (hdg : decode Y.2.1 pc = .ok (.pop2, 1)) (hva : va.category = 2) (kk : mj_J G Y Ex N S (pc + 1) lv st μ) : mj_J G Y Ex N S pc lv (va :: st) μ := by
  intro p e R s m args below meth c Q C H locs cells slots ls hw hL hb hc hs hl
  exact lv_pop2_2 C.1 C.2.1 hdg hva (kk p e R s m args below meth c Q C H locs cells slots ls hw hL hb hc hs hl)
theorem mj_dup_x1 {va vb : Value} (hdg : decode Y.2.1 pc = .ok (.dup_x1, 1)) (hva : va.category = 1) (hvb : vb.category = 1) (kk : mj_J G Y Ex N S (pc + 1) lv (va :: vb :: va :: st) μ) : mj_J G Y Ex N S pc lv (va :: vb :: st) μ := by
  intro p e R s m args below meth c Q C H locs cells slots ls hw hL hb hc hs hl
  exact lv_dup_x1 C.1 C.2.1 hdg hva hvb (kk p e R s m args below meth c Q C H locs cells slots ls hw hL hb hc hs hl)
theorem mj_dup_x2 {va vb vd : Value} (hdg : decode Y.2.1 pc = .ok (.dup_x2, 1)) (hva : va.category = 1) (hvb : vb.category = 1) (hvd : vd.category = 1) (kk : mj_J G Y Ex N S (pc + 1) lv (va :: vb :: vd :: va :: st) μ) : mj_J G Y Ex N S pc lv (va :: vb :: vd :: st) μ := by
  intro p e R s m args below meth c Q C H locs cells slots ls hw hL hb hc hs hl
  exact lv_dup_x2 C.1 C.2.1 hdg hva hvb hvd (kk p e R s m args below meth c Q C H locs cells slots ls hw hL hb hc hs hl)
theorem mj_dup2 {va vb : Value} (hdg : decode Y.2.1 pc = .ok (.dup2, 1)) (hva : va.category = 1) (hvb : vb.category = 1) (kk : mj_J G Y Ex N S (pc + 1) lv (va :: vb :: va :: vb :: st) μ) : mj_J G Y Ex N S pc lv (va :: vb :: st) μ := by
  intro p e R s m args below meth c Q C H locs cells slots ls hw hL hb hc hs hl
  exact lv_dup2_11 C.1 C.2.1 hdg hva hvb (kk p e R s m args below meth c Q C H locs cells slots ls hw hL hb hc hs hl)
theorem mj_iload_n {k : Fin 4} {x : Int32} (j : Nat) (hdg : decode Y.2.1 pc = .ok (.iload_n k, 1)) (hj : lv[j]? = some ((k : Nat), .int x)) (kk : mj_J G Y Ex N S (pc + 1) lv (.int x :: st) μ) : mj_J G Y Ex N S pc lv st μ := by
  intro p e R s m args below meth c Q C H locs cells slots ls hw hL hb hc hs hl
  exact lv_iload_n C.1 C.2.1 hdg rfl (lv_at hl j hj) (kk p e R s m args below meth c Q C H locs cells slots ls hw hL hb hc hs hl)
theorem mj_iload {i : Nat} {x : Int32} (j : Nat) (hdg : decode Y.2.1 pc = .ok (.iload i, 2)) (hj : lv[j]? = some (i, .int x)) (kk : mj_J G Y Ex N S (pc + 2) lv (.int x :: st) μ) : mj_J G Y Ex N S pc lv st μ := by
  intro p e R s m args below meth c Q C H locs cells slots ls hw hL hb hc hs hl
  exact lv_iload C.1 C.2.1 hdg (lv_at hl j hj) (kk p e R s m args below meth c Q C H locs cells slots ls hw hL hb hc hs hl)
theorem mj_lload_n {k : Fin 4} {x : Int64} (j : Nat) (hdg : decode Y.2.1 pc = .ok (.lload_n k, 1)) (hj : lv[j]? = some ((k : Nat), .long x)) (kk : mj_J G Y Ex N S (pc + 1) lv (.long x :: st) μ) : mj_J G Y Ex N S pc lv st μ := by
  intro p e R s m args below meth c Q C H locs cells slots ls hw hL hb hc hs hl
  exact lv_lload_n C.1 C.2.1 hdg rfl (lv_at hl j hj) (kk p e R s m args below meth c Q C H locs cells slots ls hw hL hb hc hs hl)
theorem mj_lload {i : Nat} {x : Int64} (j : Nat) (hdg : decode Y.2.1 pc = .ok (.lload i, 2)) (hj : lv[j]? = some (i, .long x)) (kk : mj_J G Y Ex N S (pc + 2) lv (.long x :: st) μ) : mj_J G Y Ex N S pc lv st μ := by
  intro p e R s m args below meth c Q C H locs cells slots ls hw hL hb hc hs hl
  exact lv_lload C.1 C.2.1 hdg (lv_at hl j hj) (kk p e R s m args below meth c Q C H locs cells slots ls hw hL hb hc hs hl)
theorem mj_aload_n {k : Fin 4} {r : Option Nat} (j : Nat) (hdg : decode Y.2.1 pc = .ok (.aload_n k, 1)) (hj : lv[j]? = some ((k : Nat), va_rf r)) (kk : mj_J G Y Ex N S (pc + 1) lv (va_rf r :: st) μ) : mj_J G Y Ex N S pc lv st μ := by
  intro p e R s m args below meth c Q C H locs cells slots ls hw hL hb hc hs hl
  cases r with
  | none => exact lv_aload_nN C.1 C.2.1 hdg rfl (lv_at hl j hj) (kk p e R s m args below meth c Q C H locs cells slots ls hw hL hb hc hs hl)
  | some a => exact lv_aload_n C.1 C.2.1 hdg rfl (lv_at hl j hj) (kk p e R s m args below meth c Q C H locs cells slots ls hw hL hb hc hs hl)
theorem mj_aload {i : Nat} {r : Option Nat} (j : Nat) (hdg : decode Y.2.1 pc = .ok (.aload i, 2)) (hj : lv[j]? = some (i, va_rf r)) (kk : mj_J G Y Ex N S (pc + 2) lv (va_rf r :: st) μ) : mj_J G Y Ex N S pc lv st μ := by
  intro p e R s m args below meth c Q C H locs cells slots ls hw hL hb hc hs hl
  cases r with
  | none => exact lv_aloadN C.1 C.2.1 hdg (lv_at hl j hj) (kk p e R s m args below meth c Q C H locs cells slots ls hw hL hb hc hs hl)
  | some a => exact lv_aload C.1 C.2.1 hdg (lv_at hl j hj) (kk p e R s m args below meth c Q C H locs cells slots ls hw hL hb hc hs hl)
theorem mj_istore_n {k : Fin 4} {x : Int32} {lv' : List (Nat × Value)} (hdg : decode Y.2.1 pc = .ok (.istore_n k, 1)) (hn : (k : Nat) < Y.2.2.1) (hv : ((k : Nat), Value.int x) :: lv.filter (fun q => !(q.1 == (k : Nat)) && !(q.1 + 1 == (k : Nat) && q.2.category == 2)) = lv') (kk : mj_J G Y Ex N S (pc + 1) lv' st μ) : mj_J G Y Ex N S pc lv (.int x :: st) μ := by
  intro p e R s m args below meth c Q C H locs cells slots ls hw hL hb hc hs hl
  exact lv_istore_n C.1 C.2.1 hdg rfl hl hn hv (fun ls2 hl2 => kk p e R s m args below meth c Q C H locs cells slots ls2 hw hL hb hc hs hl2)
theorem mj_istore {i : Nat} {x : Int32} {lv' : List (Nat × Value)} (hdg : decode Y.2.1 pc = .ok (.istore i, 2)) (hn : i < Y.2.2.1) (hv : (i, Value.int x) :: lv.filter (fun q => !(q.1 == i) && !(q.1 + 1 == i && q.2.category == 2)) = lv') (kk : mj_J G Y Ex N S (pc + 2) lv' st μ) : mj_J G Y Ex N S pc lv (.int x :: st) μ := by
  intro p e R s m args below meth c Q C H locs cells slots ls hw hL hb hc hs hl
  exact lv_istore C.1 C.2.1 hdg hl hn hv (fun ls2 hl2 => kk p e R s m args below meth c Q C H locs cells slots ls2 hw hL hb hc hs hl2)
theorem mj_lstore_n {k : Fin 4} {x : Int64} {lv' : List (Nat × Value)} (hdg : decode Y.2.1 pc = .ok (.lstore_n k, 1)) (hn : (k : Nat) + 1 < Y.2.2.1) (hv : ((k : Nat), Value.long x) :: lv.filter (fun q => !(q.1 == (k : Nat)) && (!(q.1 == (k : Nat) + 1) && !(q.1 + 1 == (k : Nat) && q.2.category == 2))) = lv') (kk : mj_J G Y Ex N S (pc + 1) lv' st μ) : mj_J G Y Ex N S pc lv (.long x :: st) μ := by
  intro p e R s m args below meth c Q C H locs cells slots ls hw hL hb hc hs hl
  exact lv_lstore_n C.1 C.2.1 hdg rfl hl hn hv (fun ls2 hl2 => kk p e R s m args below meth c Q C H locs cells slots ls2 hw hL hb hc hs hl2)
theorem mj_lstore {i : Nat} {x : Int64} {lv' : List (Nat × Value)} (hdg : decode Y.2.1 pc = .ok (.lstore i, 2)) (hn : i + 1 < Y.2.2.1) (hv : (i, Value.long x) :: lv.filter (fun q => !(q.1 == i) && (!(q.1 == i + 1) && !(q.1 + 1 == i && q.2.category == 2))) = lv') (kk : mj_J G Y Ex N S (pc + 2) lv' st μ) : mj_J G Y Ex N S pc lv (.long x :: st) μ := by
  intro p e R s m args below meth c Q C H locs cells slots ls hw hL hb hc hs hl
  exact lv_lstore C.1 C.2.1 hdg hl hn hv (fun ls2 hl2 => kk p e R s m args below meth c Q C H locs cells slots ls2 hw hL hb hc hs hl2)
theorem mj_astore_n {k : Fin 4} {r : Option Nat} {lv' : List (Nat × Value)} (hdg : decode Y.2.1 pc = .ok (.astore_n k, 1)) (hn : (k : Nat) < Y.2.2.1) (hv : ((k : Nat), va_rf r) :: lv.filter (fun q => !(q.1 == (k : Nat)) && !(q.1 + 1 == (k : Nat) && q.2.category == 2)) = lv') (kk : mj_J G Y Ex N S (pc + 1) lv' st μ) : mj_J G Y Ex N S pc lv (va_rf r :: st) μ := by
  intro p e R s m args below meth c Q C H locs cells slots ls hw hL hb hc hs hl
  cases r with
  | none => exact lv_astore_nN C.1 C.2.1 hdg rfl hl hn hv (fun ls2 hl2 => kk p e R s m args below meth c Q C H locs cells slots ls2 hw hL hb hc hs hl2)
  | some a => exact lv_astore_n C.1 C.2.1 hdg rfl hl hn hv (fun ls2 hl2 => kk p e R s m args below meth c Q C H locs cells slots ls2 hw hL hb hc hs hl2)
theorem mj_astore {i : Nat} {r : Option Nat} {lv' : List (Nat × Value)} (hdg : decode Y.2.1 pc = .ok (.astore i, 2)) (hn : i < Y.2.2.1) (hv : (i, va_rf r) :: lv.filter (fun q => !(q.1 == i) && !(q.1 + 1 == i && q.2.category == 2)) = lv') (kk : mj_J G Y Ex N S (pc + 2) lv' st μ) : mj_J G Y Ex N S pc lv (va_rf r :: st) μ := by
  intro p e R s m args below meth c Q C H locs cells slots ls hw hL hb hc hs hl
  cases r with
  | none => exact lv_astoreN C.1 C.2.1 hdg hl hn hv (fun ls2 hl2 => kk p e R s m args below meth c Q C H locs cells slots ls2 hw hL hb hc hs hl2)
  | some a => exact lv_astore C.1 C.2.1 hdg hl hn hv (fun ls2 hl2 => kk p e R s m args below meth c Q C H locs cells slots ls2 hw hL hb hc hs hl2)
theorem mj_iinc {i j : Nat} {n : Int} {x v : Int32} {lv' : List (Nat × Value)} (hdg : decode Y.2.1 pc = .ok (.iinc i n, 3)) (hj : lv[j]? = some (i, .int x)) (he : x + Int32.ofInt n = v) (hn : i < Y.2.2.1) (hv : (i, Value.int v) :: lv.filter (fun q => !(q.1 == i) && !(q.1 + 1 == i && q.2.category == 2)) = lv') (kk : mj_J G Y Ex N S (pc + 3) lv' st μ) : mj_J G Y Ex N S pc lv st μ := by
  intro p e R s m args below meth c Q C H locs cells slots ls hw hL hb hc hs hl
  exact lv_iinc C.1 C.2.1 hdg hl hj he hn hv (fun ls2 hl2 => kk p e R s m args below meth c Q C H locs cells slots ls2 hw hL hb hc hs hl2)
theorem mj_goto {off : Int} {tgt : Nat} (hdg : decode Y.2.1 pc = .ok (.goto off, 3)) (ht : (pc : Int) + off = (tgt : Int)) (kk : mj_J G Y Ex N S tgt lv st μ) : mj_J G Y Ex N S pc lv st μ := by
  intro p e R s m args below meth c Q C H locs cells slots ls hw hL hb hc hs hl
  exact lv_goto C.1 C.2.1 hdg ht (kk p e R s m args below meth c Q C H locs cells slots ls hw hL hb hc hs hl)
theorem mj_if_eq {x : Int32} {off : Int} {tgt : Nat} (hdg : decode Y.2.1 pc = .ok (.ifCond .eq off, 3)) (ht : (pc : Int) + off = (tgt : Int)) (kt : x = 0 → mj_J G Y Ex N S tgt lv st μ) (kf : ¬ x = 0 → mj_J G Y Ex N S (pc + 3) lv st μ) : mj_J G Y Ex N S pc lv (.int x :: st) μ := by
  intro p e R s m args below meth c Q C H locs cells slots ls hw hL hb hc hs hl
  exact lv_if_eq C.1 C.2.1 hdg ht (fun h => kt h p e R s m args below meth c Q C H locs cells slots ls hw hL hb hc hs hl) (fun h => kf h p e R s m args below meth c Q C H locs cells slots ls hw hL hb hc hs hl)
theorem mj_if_ne {x : Int32} {off : Int} {tgt : Nat} (hdg : decode Y.2.1 pc = .ok (.ifCond .ne off, 3)) (ht : (pc : Int) + off = (tgt : Int)) (kt : ¬ x = 0 → mj_J G Y Ex N S tgt lv st μ) (kf : x = 0 → mj_J G Y Ex N S (pc + 3) lv st μ) : mj_J G Y Ex N S pc lv (.int x :: st) μ := by
  intro p e R s m args below meth c Q C H locs cells slots ls hw hL hb hc hs hl
  exact lv_if_ne C.1 C.2.1 hdg ht (fun h => kt h p e R s m args below meth c Q C H locs cells slots ls hw hL hb hc hs hl) (fun h => kf h p e R s m args below meth c Q C H locs cells slots ls hw hL hb hc hs hl)
theorem mj_if_lt {x : Int32} {off : Int} {tgt : Nat} (hdg : decode Y.2.1 pc = .ok (.ifCond .lt off, 3)) (ht : (pc : Int) + off = (tgt : Int)) (kt : x < 0 → mj_J G Y Ex N S tgt lv st μ) (kf : ¬ x < 0 → mj_J G Y Ex N S (pc + 3) lv st μ) : mj_J G Y Ex N S pc lv (.int x :: st) μ := by
  intro p e R s m args below meth c Q C H locs cells slots ls hw hL hb hc hs hl
  exact lv_if_lt C.1 C.2.1 hdg ht (fun h => kt h p e R s m args below meth c Q C H locs cells slots ls hw hL hb hc hs hl) (fun h => kf h p e R s m args below meth c Q C H locs cells slots ls hw hL hb hc hs hl)
theorem mj_if_ge {x : Int32} {off : Int} {tgt : Nat} (hdg : decode Y.2.1 pc = .ok (.ifCond .ge off, 3)) (ht : (pc : Int) + off = (tgt : Int)) (kt : 0 ≤ x → mj_J G Y Ex N S tgt lv st μ) (kf : ¬ 0 ≤ x → mj_J G Y Ex N S (pc + 3) lv st μ) : mj_J G Y Ex N S pc lv (.int x :: st) μ := by
  intro p e R s m args below meth c Q C H locs cells slots ls hw hL hb hc hs hl
  exact lv_if_ge C.1 C.2.1 hdg ht (fun h => kt h p e R s m args below meth c Q C H locs cells slots ls hw hL hb hc hs hl) (fun h => kf h p e R s m args below meth c Q C H locs cells slots ls hw hL hb hc hs hl)
theorem mj_if_gt {x : Int32} {off : Int} {tgt : Nat} (hdg : decode Y.2.1 pc = .ok (.ifCond .gt off, 3)) (ht : (pc : Int) + off = (tgt : Int)) (kt : 0 < x → mj_J G Y Ex N S tgt lv st μ) (kf : ¬ 0 < x → mj_J G Y Ex N S (pc + 3) lv st μ) : mj_J G Y Ex N S pc lv (.int x :: st) μ := by
  intro p e R s m args below meth c Q C H locs cells slots ls hw hL hb hc hs hl
  exact lv_if_gt C.1 C.2.1 hdg ht (fun h => kt h p e R s m args below meth c Q C H locs cells slots ls hw hL hb hc hs hl) (fun h => kf h p e R s m args below meth c Q C H locs cells slots ls hw hL hb hc hs hl)
theorem mj_if_le {x : Int32} {off : Int} {tgt : Nat} (hdg : decode Y.2.1 pc = .ok (.ifCond .le off, 3)) (ht : (pc : Int) + off = (tgt : Int)) (kt : x ≤ 0 → mj_J G Y Ex N S tgt lv st μ) (kf : ¬ x ≤ 0 → mj_J G Y Ex N S (pc + 3) lv st μ) : mj_J G Y Ex N S pc lv (.int x :: st) μ := by
  intro p e R s m args below meth c Q C H locs cells slots ls hw hL hb hc hs hl
  exact lv_if_le C.1 C.2.1 hdg ht (fun h => kt h p e R s m args below meth c Q C H locs cells slots ls hw hL hb hc hs hl) (fun h => kf h p e R s m args below meth c Q C H locs cells slots ls hw hL hb hc hs hl)
theorem mj_icmp_eq {x y : Int32} {off : Int} {tgt : Nat} (hdg : decode Y.2.1 pc = .ok (.if_icmp .eq off, 3)) (ht : (pc : Int) + off = (tgt : Int)) (kt : x = y → mj_J G Y Ex N S tgt lv st μ) (kf : ¬ x = y → mj_J G Y Ex N S (pc + 3) lv st μ) : mj_J G Y Ex N S pc lv (.int y :: .int x :: st) μ := by
  intro p e R s m args below meth c Q C H locs cells slots ls hw hL hb hc hs hl
  exact lv_icmp_eq C.1 C.2.1 hdg ht (fun h => kt h p e R s m args below meth c Q C H locs cells slots ls hw hL hb hc hs hl) (fun h => kf h p e R s m args below meth c Q C H locs cells slots ls hw hL hb hc hs hl)
theorem mj_icmp_ne {x y : Int32} {off : Int} {tgt : Nat} (hdg : decode Y.2.1 pc = .ok (.if_icmp .ne off, 3)) (ht : (pc : Int) + off = (tgt : Int)) (kt : ¬ x = y → mj_J G Y Ex N S tgt lv st μ) (kf : x = y → mj_J G Y Ex N S (pc + 3) lv st μ) : mj_J G Y Ex N S pc lv (.int y :: .int x :: st) μ := by
  intro p e R s m args below meth c Q C H locs cells slots ls hw hL hb hc hs hl
  exact lv_icmp_ne C.1 C.2.1 hdg ht (fun h => kt h p e R s m args below meth c Q C H locs cells slots ls hw hL hb hc hs hl) (fun h => kf h p e R s m args below meth c Q C H locs cells slots ls hw hL hb hc hs hl)
theorem mj_icmp_lt {x y : Int32} {off : Int} {tgt : Nat} (hdg : decode Y.2.1 pc = .ok (.if_icmp .lt off, 3)) (ht : (pc : Int) + off = (tgt : Int)) (kt : x < y → mj_J G Y Ex N S tgt lv st μ) (kf : ¬ x < y → mj_J G Y Ex N S (pc + 3) lv st μ) : mj_J G Y Ex N S pc lv (.int y :: .int x :: st) μ := by
  intro p e R s m args below meth c Q C H locs cells slots ls hw hL hb hc hs hl
  exact lv_icmp_lt C.1 C.2.1 hdg ht (fun h => kt h p e R s m args below meth c Q C H locs cells slots ls hw hL hb hc hs hl) (fun h => kf h p e R s m args below meth c Q C H locs cells slots ls hw hL hb hc hs hl)
theorem mj_icmp_ge {x y : Int32} {off : Int} {tgt : Nat} (hdg : decode Y.2.1 pc = .ok (.if_icmp .ge off, 3)) (ht : (pc : Int) + off = (tgt : Int)) (kt : y ≤ x → mj_J G Y Ex N S tgt lv st μ) (kf : ¬ y ≤ x → mj_J G Y Ex N S (pc + 3) lv st μ) : mj_J G Y Ex N S pc lv (.int y :: .int x :: st) μ := by
  intro p e R s m args below meth c Q C H locs cells slots ls hw hL hb hc hs hl
  exact lv_icmp_ge C.1 C.2.1 hdg ht (fun h => kt h p e R s m args below meth c Q C H locs cells slots ls hw hL hb hc hs hl) (fun h => kf h p e R s m args below meth c Q C H locs cells slots ls hw hL hb hc hs hl)
theorem mj_icmp_gt {x y : Int32} {off : Int} {tgt : Nat} (hdg : decode Y.2.1 pc = .ok (.if_icmp .gt off, 3)) (ht : (pc : Int) + off = (tgt : Int)) (kt : y < x → mj_J G Y Ex N S tgt lv st μ) (kf : ¬ y < x → mj_J G Y Ex N S (pc + 3) lv st μ) : mj_J G Y Ex N S pc lv (.int y :: .int x :: st) μ := by
  intro p e R s m args below meth c Q C H locs cells slots ls hw hL hb hc hs hl
  exact lv_icmp_gt C.1 C.2.1 hdg ht (fun h => kt h p e R s m args below meth c Q C H locs cells slots ls hw hL hb hc hs hl) (fun h => kf h p e R s m args below meth c Q C H locs cells slots ls hw hL hb hc hs hl)
theorem mj_icmp_le {x y : Int32} {off : Int} {tgt : Nat} (hdg : decode Y.2.1 pc = .ok (.if_icmp .le off, 3)) (ht : (pc : Int) + off = (tgt : Int)) (kt : x ≤ y → mj_J G Y Ex N S tgt lv st μ) (kf : ¬ x ≤ y → mj_J G Y Ex N S (pc + 3) lv st μ) : mj_J G Y Ex N S pc lv (.int y :: .int x :: st) μ := by
  intro p e R s m args below meth c Q C H locs cells slots ls hw hL hb hc hs hl
  exact lv_icmp_le C.1 C.2.1 hdg ht (fun h => kt h p e R s m args below meth c Q C H locs cells slots ls hw hL hb hc hs hl) (fun h => kf h p e R s m args below meth c Q C H locs cells slots ls hw hL hb hc hs hl)
theorem mj_acmp_eq {rx ry : Option Nat} {off : Int} {tgt : Nat} (hdg : decode Y.2.1 pc = .ok (.if_acmp .eq off, 3)) (ht : (pc : Int) + off = (tgt : Int)) (kt : rx = ry → mj_J G Y Ex N S tgt lv st μ) (kf : ¬ rx = ry → mj_J G Y Ex N S (pc + 3) lv st μ) : mj_J G Y Ex N S pc lv (va_rf ry :: va_rf rx :: st) μ := by
  intro p e R s m args below meth c Q C H locs cells slots ls hw hL hb hc hs hl
  exact lv_acmp_eq C.1 C.2.1 hdg ht (fun h => kt h p e R s m args below meth c Q C H locs cells slots ls hw hL hb hc hs hl) (fun h => kf h p e R s m args below meth c Q C H locs cells slots ls hw hL hb hc hs hl)
theorem mj_acmp_ne {rx ry : Option Nat} {off : Int} {tgt : Nat} (hdg : decode Y.2.1 pc = .ok (.if_acmp .ne off, 3)) (ht : (pc : Int) + off = (tgt : Int)) (kt : ¬ rx = ry → mj_J G Y Ex N S tgt lv st μ) (kf : rx = ry → mj_J G Y Ex N S (pc + 3) lv st μ) : mj_J G Y Ex N S pc lv (va_rf ry :: va_rf rx :: st) μ := by
  intro p e R s m args below meth c Q C H locs cells slots ls hw hL hb hc hs hl
  exact lv_acmp_ne C.1 C.2.1 hdg ht (fun h => kt h p e R s m args below meth c Q C H locs cells slots ls hw hL hb hc hs hl) (fun h => kf h p e R s m args below meth c Q C H locs cells slots ls hw hL hb hc hs hl)
theorem mj_ifnull {r : Option Nat} {off : Int} {tgt : Nat} (hdg : decode Y.2.1 pc = .ok (.ifnull off, 3)) (ht : (pc : Int) + off = (tgt : Int)) (kt : r = none → mj_J G Y Ex N S tgt lv st μ) (kf : ∀ b : Nat, r = some b → mj_J G Y Ex N S (pc + 3) lv st μ) : mj_J G Y Ex N S pc lv (va_rf r :: st) μ := by
  intro p e R s m args below meth c Q C H locs cells slots ls hw hL hb hc hs hl
  cases r with
  | none => exact lv_ifnullN C.1 C.2.1 hdg ht (kt rfl p e R s m args below meth c Q C H locs cells slots ls hw hL hb hc hs hl)
  | some a => exact lv_ifnull C.1 C.2.1 hdg (kf a rfl p e R s m args below meth c Q C H locs cells slots ls hw hL hb hc hs hl)
theorem mj_ifnonnull {r : Option Nat} {off : Int} {tgt : Nat} (hdg : decode Y.2.1 pc = .ok (.ifnonnull off, 3)) (ht : (pc : Int) + off = (tgt : Int)) (kt : ∀ b : Nat, r = some b → mj_J G Y Ex N S tgt lv st μ) (kf : r = none → mj_J G Y Ex N S (pc + 3) lv st μ) : mj_J G Y Ex N S pc lv (va_rf r :: st) μ := by
  intro p e R s m args below meth c Q C H locs cells slots ls hw hL hb hc hs hl
  cases r with
  | none => exact lv_ifnonnullN C.1 C.2.1 hdg (kf rfl p e R s m args below meth c Q C H locs cells slots ls hw hL hb hc hs hl)
  | some a => exact lv_ifnonnull C.1 C.2.1 hdg ht (kt a rfl p e R s m args below meth c Q C H locs cells slots ls hw hL hb hc hs hl)
theorem mj_tableIn {dflt lo hi : Int} {offs : Array Int} {len : Nat} {x : Int32} {off : Int} {tgt : Nat} (hdg : decode Y.2.1 pc = .ok (.tableswitch dflt lo hi offs, len)) (h1 : ¬ x.toInt < lo) (h2 : ¬ hi < x.toInt) (ho : offs[(x.toInt - lo).toNat]? = some off) (ht : (pc : Int) + off = (tgt : Int)) (kk : mj_J G Y Ex N S tgt lv st μ) : mj_J G Y Ex N S pc lv (.int x :: st) μ := by
  intro p e R s m args below meth c Q C H locs cells slots ls hw hL hb hc hs hl
  exact lv_tableIn C.1 C.2.1 hdg h1 h2 ho ht (kk p e R s m args below meth c Q C H locs cells slots ls hw hL hb hc hs hl)
theorem mj_tableOut {dflt lo hi : Int} {offs : Array Int} {len : Nat} {x : Int32} {tgt : Nat} (hdg : decode Y.2.1 pc = .ok (.tableswitch dflt lo hi offs, len)) (h : x.toInt < lo ∨ hi < x.toInt) (ht : (pc : Int) + dflt = (tgt : Int)) (kk : mj_J G Y Ex N S tgt lv st μ) : mj_J G Y Ex N S pc lv (.int x :: st) μ := by
  intro p e R s m args below meth c Q C H locs cells slots ls hw hL hb hc hs hl
  exact lv_tableOut C.1 C.2.1 hdg h ht (kk p e R s m args below meth c Q C H locs cells slots ls hw hL hb hc hs hl)
theorem mj_return (hdg : decode Y.2.1 pc = .ok (.return_, 1)) (hr : Y.2.2.2.2.2.1 = none) (he : Ex none μ) : mj_J G Y Ex N S pc lv [] μ := by
  intro p e R s m args below meth c Q C H locs cells slots ls hw hL hb hc hs hl
  exact C.2.2.2.2.2.2.2.2.2 H locs cells slots pc ls none μ hw hL (by omega) (by omega) he (Or.inl ⟨rfl, hr, hdg⟩)
theorem mj_ireturn {x : Int32} {ty : FieldType} (hdg : decode Y.2.1 pc = .ok (.ireturn, 1)) (hr : Y.2.2.2.2.2.1 = some ty) (hn : narrow ty (.int x) = .int x) (he : Ex (some (.int x)) μ) : mj_J G Y Ex N S pc lv [.int x] μ := by
  intro p e R s m args below meth c Q C H locs cells slots ls hw hL hb hc hs hl
  exact C.2.2.2.2.2.2.2.2.2 H locs cells slots pc ls (some (.int x)) μ hw hL (by omega) (by omega) he (Or.inr (Or.inl ⟨x, ty, rfl, hr, hn, hdg⟩))
theorem mj_lreturn {x : Int64} (hdg : decode Y.2.1 pc = .ok (.lreturn, 1)) (hr : Y.2.2.2.2.2.1 = some .long) (he : Ex (some (.long x)) μ) : mj_J G Y Ex N S pc lv [.long x] μ := by
  intro p e R s m args below meth c Q C H locs cells slots ls hw hL hb hc hs hl
  exact C.2.2.2.2.2.2.2.2.2 H locs cells slots pc ls (some (.long x)) μ hw hL (by omega) (by omega) he (Or.inr (Or.inr (Or.inl ⟨x, rfl, hr, hdg⟩)))
theorem mj_areturn {r : Option Nat} {ty : FieldType} (hdg : decode Y.2.1 pc = .ok (.areturn, 1)) (hr : Y.2.2.2.2.2.1 = some ty) (hn : (∃ n, ty = .object n) ∨ ∃ t, ty = .array t) (he : Ex (some (va_rf r)) μ) : mj_J G Y Ex N S pc lv [va_rf r] μ := by
  intro p e R s m args below meth c Q C H locs cells slots ls hw hL hb hc hs hl
  exact C.2.2.2.2.2.2.2.2.2 H locs cells slots pc ls (some (va_rf r)) μ hw hL (by omega) (by omega) he (Or.inr (Or.inr (Or.inr ⟨r, ty, rfl, hr, hn, hdg⟩)))
end MJ
section MJB
variable {G : mj_G} {Y : mj_Y} {Ex : Option Value → mj_MM → Prop} {N S pc : Nat} {lv : List (Nat × Value)} {st : List Value} {μ : mj_MM}
/-- a class of the table: its place, its fields' types, their names apart, its words among the tables' -/
def mj_Cl (ci : Nat) (C : String) (T : u_T) (N : Nat) : Prop := ci < 500 ∧ md_cl[ci]? = some (C, T, N) ∧ (∀ k, k < N → parseFieldDescriptor (T k).2.2.1 = some (md_ty ci k)) ∧ (∀ a, a < N → ∀ b, b < N → a ≠ b → (T a).2.1 ≠ (T b).2.1) ∧ ∀ w ∈ u_ws C T N, w ∈ md_Ts
theorem mj_W.obj {H : Heap} {a ci : Nat} {C : String} {T : u_T} {NF : Nat} (hw : mj_W G μ H) (hc : mj_Cl ci C T NF) (ht : mj_t μ a = ci + 1) : t_OB a (G.2.1.1 ci) NF (G.2.1.2 ci) H (fun k => mj_val (md_ty ci k) μ a k) := by
  obtain ⟨r, h1, h2⟩ := hw.2.2.2.1 a ci hc.1 ht
  have hr : r = (C, T, NF) := Option.some.inj (h1.symm.trans hc.2.1)
  subst hr
  exact h2
theorem mj_getf {a ci index : Nat} {rr : Option Nat} {C : String} {T : u_T} {NF : Nat} {v : Value} (hrr : rr = some a) (hc : mj_Cl ci C T NF) (k : Nat) (hk : k < NF) (hlink : Cond.fieldLink Y.1 index (T k).1 (T k).2.1 (T k).2.2.1 ∈ md_Ts) (hdg : decode Y.2.1 pc = .ok (.getfield index, 3)) (ht : mj_t μ a = ci + 1) (hv : mj_val (md_ty ci k) μ a k = v)
    (kk : mj_J G Y Ex N S (pc + 3) lv (v :: st) μ) : mj_J G Y Ex N S pc lv (va_rf rr :: st) μ := by
  subst hrr
  intro p e R s m args below meth c Q C H locs cells slots ls hw hL hb hc' hs hl
  obtain ⟨cell, q1, q2, q3, q4⟩ := hw.obj hc ht
  obtain ⟨hS, hfc, kC, hkC, hkind⟩ := C.2.2.2.2.2.1.1.1 ci _ hc.2.1
  obtain ⟨cf, kf, fi, f, hi, hsl⟩ := hS k hk
  refine W.getf C.1 C.2.1 C.2.2.2.1 (C.2.2.2.2.1 _ hlink) hi (u_facts hfc hkC (u_lays C.2.2.2.2.1 hc.2.2.2.2 hk) hi).1 q1 (by rw [q3]; exact fun h => by cases h) (v := v) ?_ rfl rfl hdg (kk p e R s m args below meth c Q C H locs cells slots ls hw hL hb hc' hs hl)
  rw [hsl, q4 k hk]
  exact congrArg some hv
theorem mj_apart {s : State} {args : Array Value} {ci : Nat} {C : String} {T : u_T} {NF : Nat} (hts : ∀ w ∈ md_Ts, w.before args s = true) (hK : mj_K G s) (hc : mj_Cl ci C T NF) : ∀ x y, x < NF → y < NF → x ≠ y → (G.2.1.2 ci) x ≠ (G.2.1.2 ci) y :=
  va_apart (own := C) hts hc.2.2.2.2 (md_ty ci) hc.2.2.1 hc.2.2.2.1 hK.1 hc.2.1
/-- one object's cell has changed in one place -/
theorem mj_W.put {H H' : Heap} {μ' : mj_MM} {a ci k : Nat} {C : String} {T : u_T} {NF : Nat} {cell : Cell} {v : Value} (hw : mj_W G μ H) (hc : mj_Cl ci C T NF) (ht : mj_t μ a = ci + 1)
    (e1 : t_OB a (G.2.1.1 ci) NF (G.2.1.2 ci) H' (updV (fun j => mj_val (md_ty ci j) μ a j) k v)) (e2 : H'.size = H.size) (e3 : ∀ q, q ≠ a → H'[q]? = H[q]?) (h1 : ∀ b, mj_t μ' b = mj_t μ b)
    (h2 : ∀ j, j < NF → mj_val (md_ty ci j) μ' a j = updV (fun j => mj_val (md_ty ci j) μ a j) k v j) (h3 : ∀ (b : Nat) (ty : FieldType) (j : Nat), b ≠ a → mj_val ty μ' b j = mj_val ty μ b j) (h4 : ∀ (b : Nat) (ty : FieldType), b ≠ a → mj_arr ty μ' b = mj_arr ty μ b) : mj_W G μ' H' := by
  obtain ⟨w1, w2, w3, w4, w5⟩ := hw
  have ha : G.2.2.2.size ≤ a := (w3 a (by rw [ht]; omega)).1
  refine ⟨by rw [e2]; exact w1, fun q hq => by rw [e3 q (by omega)]; exact w2 q hq, fun b hb => by rw [e2]; exact w3 b (by rw [← h1]; exact hb), fun b cj hj hb => ?_, fun b t hb => ?_⟩
  · rw [h1] at hb
    by_cases hba : b = a
    · subst hba
      have hcj : cj = ci := by rw [ht] at hb; omega
      subst hcj
      exact ⟨_, hc.2.1, e1.to fun j hj => (h2 j hj).symm⟩
    · obtain ⟨r, g1, g2⟩ := w4 b cj hj hb
      exact ⟨r, g1, (g2.kept (e3 b hba)).to fun j _ => (h3 b _ j hba).symm⟩
  · rw [h1] at hb
    by_cases hba : b = a
    · subst hba
      have := hc.1
      rw [ht] at hb
      omega
    · obtain ⟨q, g1, g2⟩ := w5 b t hb
      exact ⟨q, g1, by rw [e3 b hba, h4 b _ hba]; exact g2⟩
/-- the machine's own store, any value -/
theorem mj_putv {a ci index : Nat} {C : String} {T : u_T} {NF : Nat} {v : Value} {μ' : mj_MM} (hc : mj_Cl ci C T NF) (k : Nat) (hk : k < NF) (hlink : Cond.fieldLink Y.1 index (T k).1 (T k).2.1 (T k).2.2.1 ∈ md_Ts) (hdg : decode Y.2.1 pc = .ok (.putfield index, 3))
    (hfin : (T k).2.2.2 = false ∨ ((T k).2.2.2 = true ∧ (T k).1 = Y.1 ∧ Y.2.2.2.2.2.2 = true)) (ht : mj_t μ a = ci + 1) (hn : narrow (md_ty ci k) v = v) (hfit : fits (md_ty ci k) v = true) (h1 : ∀ b, mj_t μ' b = mj_t μ b)
    (h2 : ∀ j, j < NF → mj_val (md_ty ci j) μ' a j = updV (fun j => mj_val (md_ty ci j) μ a j) k v j) (h3 : ∀ (b : Nat) (ty : FieldType) (j : Nat), b ≠ a → mj_val ty μ' b j = mj_val ty μ b j) (h4 : ∀ (b : Nat) (ty : FieldType), b ≠ a → mj_arr ty μ' b = mj_arr ty μ b) (h5 : mj_nc μ' = mj_nc μ) (h6 : mj_ns μ' = mj_ns μ)
    (kk : mj_J G Y Ex N S (pc + 3) lv st μ') : mj_J G Y Ex N S pc lv (v :: va_rf (some a) :: st) μ := by
  intro p e R s m args below meth c Q C H locs cells slots ls hw hL hb hc' hs hl
  have hap := mj_apart C.2.2.2.2.1 C.2.2.2.2.2.1 hc
  obtain ⟨cell, q1, q2, q3, q4⟩ := hw.obj hc ht
  obtain ⟨hS, hfc, kC, hkC, hkind⟩ := C.2.2.2.2.2.1.1.1 ci _ hc.2.1
  obtain ⟨cf, kf, fi, f, hi, hsl⟩ := hS k hk
  have hlay := C.2.2.2.2.1 _ (hc.2.2.2.2 _ (u_in_lay hk))
  have hst := (u_facts hfc hkC (u_lays C.2.2.2.2.1 hc.2.2.2.2 hk) hi).1
  have ha : G.2.2.2.size ≤ a := (hw.2.2.1 a (by rw [ht]; omega)).1
  have fin : ∀ H' : Heap, H'[a]? = some (cell.setSlot f.slot v) → H'.size = H.size → (∀ q, q ≠ a → H'[q]? = H[q]?) → W p G.1 e R s m args below meth c H' (locs ++ [⟨a, f.slot⟩]) cells slots Q (F0 m (pc + 3) ls st) := by
    intro H' e1 e2 e3
    rw [hsl] at e1
    exact kk p e R s m args below meth c Q C H' _ cells slots ls (hw.put (cell := cell) hc ht ⟨_, e1, q2, q3, t_set q4 hap hk v⟩ e2 e3 h1 h2 h3 h4) (t_lc hL ha) (by rw [h5, h6]; exact hb) (by rw [h5]; exact hc') (by rw [h6]; exact hs) hl
  unfold u_lay at hlay
  rcases hfin with hfin | ⟨hfin, hdecl, hin2⟩
  · rw [if_neg (by rw [hfin]; decide)] at hlay
    have h6 := u_store hfc hkC hkind hlay hi (hc.2.2.1 k hk) hn hfit
    exact W.putK C.1 C.2.1 (f := f) ⟨C.2.2.2.1, C.2.2.2.2.1 _ hlink, ⟨_, _, _, hi⟩, hst⟩ (by rw [q2]; exact h6) q1 q3 (by rw [hsl]; exact k2_hasslot (q4 k hk)) rfl rfl hdg fin
  · rw [if_pos hfin] at hlay
    have hcf : m.cls = cf := by
      obtain ⟨_, _, c', _, _, _, -, -, hf', -, -, -, hown2, -⟩ := Cond.laysFinal_spec hlay
      have e1 : c' = cf := by have := hi.symm.trans hf'; simp at this; exact this.1.symm
      rw [hdecl] at hown2
      rw [← e1]; exact Option.some.inj (C.2.2.2.1.symm.trans hown2)
    have h6 := u_fits hfc hkC hkind (Or.inr hlay) hi (hc.2.2.1 k hk) hn hfit
    exact W.putFinK C.1 C.2.1 C.2.2.2.1 (C.2.2.2.2.1 _ hlink) hi hst hcf (C.2.2.2.2.2.2.2.2.1 hin2) (by rw [q2]; exact h6) q1 q3 (by rw [hsl]; exact k2_hasslot (q4 k hk)) rfl rfl hdg fin
theorem mj_val_pI (ty : FieldType) (a k : Nat) (x : Int32) {b j : Nat} (h : b ≠ a) : mj_val ty (mj_pI μ a k x) b j = mj_val ty μ b j := by
  cases ty <;> simp [mj_val, mj_i, mj_r, mj_l, mj_pI, mj_u_apart _ x h]
theorem mj_arr_pI (ty : FieldType) (a k : Nat) (x : Int32) {b : Nat} (h : b ≠ a) : mj_arr ty (mj_pI μ a k x) b = mj_arr ty μ b := by
  have e : mj_i (mj_pI μ a k x) b = mj_i μ b := funext fun j => mj_u_apart _ x h
  cases ty <;> simp only [mj_arr] <;> first | rfl | (rw [e]; rfl)
theorem mj_val_pR (ty : FieldType) (a k : Nat) (x : Option Nat) {b j : Nat} (h : b ≠ a) : mj_val ty (mj_pR μ a k x) b j = mj_val ty μ b j := by
  cases ty <;> simp [mj_val, mj_i, mj_r, mj_l, mj_pR, mj_u_apart _ x h]
theorem mj_arr_pR (ty : FieldType) (a k : Nat) (x : Option Nat) {b : Nat} (h : b ≠ a) : mj_arr ty (mj_pR μ a k x) b = mj_arr ty μ b := by
  have e : mj_r (mj_pR μ a k x) b = mj_r μ b := funext fun j => mj_u_apart _ x h
  cases ty <;> simp only [mj_arr] <;> first | rfl | (rw [e]; rfl)
theorem mj_val_pL (ty : FieldType) (a k : Nat) (x : Int64) {b j : Nat} (h : b ≠ a) : mj_val ty (mj_pL μ a k x) b j = mj_val ty μ b j := by
  cases ty <;> simp [mj_val, mj_i, mj_r, mj_l, mj_pL, mj_u_apart _ x h]
theorem mj_arr_pL (ty : FieldType) (a k : Nat) (x : Int64) {b : Nat} (h : b ≠ a) : mj_arr ty (mj_pL μ a k x) b = mj_arr ty μ b := by
  have e : mj_l (mj_pL μ a k x) b = mj_l μ b := funext fun j => mj_u_apart _ x h
  cases ty <;> simp only [mj_arr] <;> first | rfl | (rw [e]; rfl)
def mj_isI : FieldType → Bool
  | .object _ => false
  | .array _ => false
  | .long => false
  | _ => true
def mj_isR : FieldType → Bool
  | .object _ => true
  | .array _ => true
  | _ => false
theorem mj_putI {a ci index : Nat} {rr : Option Nat} {C : String} {T : u_T} {NF : Nat} {x : Int32} (hrr : rr = some a) (hc : mj_Cl ci C T NF) (k : Nat) (hk : k < NF) (hty : mj_isI (md_ty ci k) = true) (hlink : Cond.fieldLink Y.1 index (T k).1 (T k).2.1 (T k).2.2.1 ∈ md_Ts) (hdg : decode Y.2.1 pc = .ok (.putfield index, 3))
    (hfin : (T k).2.2.2 = false ∨ ((T k).2.2.2 = true ∧ (T k).1 = Y.1 ∧ Y.2.2.2.2.2.2 = true)) (ht : mj_t μ a = ci + 1) (hn : narrow (md_ty ci k) (.int x) = .int x) (hfit : fits (md_ty ci k) (.int x) = true)
    (kk : mj_J G Y Ex N S (pc + 3) lv st (mj_pI μ a k x)) : mj_J G Y Ex N S pc lv (.int x :: va_rf rr :: st) μ := by
  subst hrr
  refine mj_putv (μ' := mj_pI μ a k x) hc k hk hlink hdg hfin ht hn hfit (fun b => rfl) (fun j hj => ?_) (fun b ty j hb => mj_val_pI ty a k x hb) (fun b ty hb => mj_arr_pI ty a k x hb) rfl rfl kk
  unfold updV
  by_cases hjk : j = k
  · subst hjk
    rw [if_pos rfl]
    generalize md_ty ci j = ty at hty ⊢
    cases ty <;> first | (exact absurd hty Bool.false_ne_true) | (simp [mj_val, mj_i, mj_pI, mj_u_self])
  · rw [if_neg hjk]
    show mj_val (md_ty ci j) (mj_pI μ a k x) a j = mj_val (md_ty ci j) μ a j
    generalize md_ty ci j = ty
    cases ty <;> simp [mj_val, mj_i, mj_r, mj_l, mj_pI, mj_u, hjk]
theorem mj_putR {a ci index : Nat} {rr : Option Nat} {C : String} {T : u_T} {NF : Nat} {x : Option Nat} (hrr : rr = some a) (hc : mj_Cl ci C T NF) (k : Nat) (hk : k < NF) (hty : mj_isR (md_ty ci k) = true) (hlink : Cond.fieldLink Y.1 index (T k).1 (T k).2.1 (T k).2.2.1 ∈ md_Ts) (hdg : decode Y.2.1 pc = .ok (.putfield index, 3))
    (hfin : (T k).2.2.2 = false ∨ ((T k).2.2.2 = true ∧ (T k).1 = Y.1 ∧ Y.2.2.2.2.2.2 = true)) (ht : mj_t μ a = ci + 1)
    (kk : mj_J G Y Ex N S (pc + 3) lv st (mj_pR μ a k x)) : mj_J G Y Ex N S pc lv (va_rf x :: va_rf rr :: st) μ := by
  subst hrr
  have hn : narrow (md_ty ci k) (va_rf x) = va_rf x := by
    generalize md_ty ci k = ty
    cases ty <;> cases x <;> rfl
  have hfit : fits (md_ty ci k) (va_rf x) = true := by
    generalize md_ty ci k = ty at hty ⊢
    cases ty <;> first | (exact absurd hty Bool.false_ne_true) | (cases x <;> rfl)
  refine mj_putv (μ' := mj_pR μ a k x) hc k hk hlink hdg hfin ht hn hfit (fun b => rfl) (fun j hj => ?_) (fun b ty j hb => mj_val_pR ty a k x hb) (fun b ty hb => mj_arr_pR ty a k x hb) rfl rfl kk
  unfold updV
  by_cases hjk : j = k
  · subst hjk
    rw [if_pos rfl]
    generalize md_ty ci j = ty at hty ⊢
    cases ty <;> first | (exact absurd hty Bool.false_ne_true) | (simp [mj_val, mj_r, mj_pR, mj_u_self])
  · rw [if_neg hjk]
    show mj_val (md_ty ci j) (mj_pR μ a k x) a j = mj_val (md_ty ci j) μ a j
    generalize md_ty ci j = ty
    cases ty <;> simp [mj_val, mj_i, mj_r, mj_l, mj_pR, mj_u, hjk]
theorem mj_putL {a ci index : Nat} {rr : Option Nat} {C : String} {T : u_T} {NF : Nat} {x : Int64} (hrr : rr = some a) (hc : mj_Cl ci C T NF) (k : Nat) (hk : k < NF) (hty : md_ty ci k = .long) (hlink : Cond.fieldLink Y.1 index (T k).1 (T k).2.1 (T k).2.2.1 ∈ md_Ts) (hdg : decode Y.2.1 pc = .ok (.putfield index, 3))
    (hfin : (T k).2.2.2 = false ∨ ((T k).2.2.2 = true ∧ (T k).1 = Y.1 ∧ Y.2.2.2.2.2.2 = true)) (ht : mj_t μ a = ci + 1)
    (kk : mj_J G Y Ex N S (pc + 3) lv st (mj_pL μ a k x)) : mj_J G Y Ex N S pc lv (.long x :: va_rf rr :: st) μ := by
  subst hrr
  refine mj_putv (μ' := mj_pL μ a k x) hc k hk hlink hdg hfin ht (by rw [hty]; rfl) (by rw [hty]; rfl) (fun b => rfl) (fun j hj => ?_) (fun b ty j hb => mj_val_pL ty a k x hb) (fun b ty hb => mj_arr_pL ty a k x hb) rfl rfl kk
  unfold updV
  by_cases hjk : j = k
  · subst hjk
    rw [if_pos rfl, hty]
    simp [mj_val, mj_l, mj_pL, mj_u_self]
  · rw [if_neg hjk]
    show mj_val (md_ty ci j) (mj_pL μ a k x) a j = mj_val (md_ty ci j) μ a j
    generalize md_ty ci j = ty
    cases ty <;> simp [mj_val, mj_i, mj_r, mj_l, mj_pL, mj_u, hjk]
/-- something new behind the heap's end -/
theorem mj_W.new {H H1 : Heap} {t n k0 : Nat} (hw : mj_W G μ H) (o1 : ∀ q, q < H.size → H1[q]? = H[q]?) (z1 : H1.size = H.size + 1)
    (hO : ∀ ci, ci < 500 → t = ci + 1 → ∃ r : vw_C, md_cl[ci]? = some r ∧ t_OB H.size (G.2.1.1 ci) r.2.2 (G.2.1.2 ci) H1 (fun k => mj_val (md_ty ci k) (mj_new μ H.size t n k0) H.size k))
    (hA : ∀ k, t = 1000 + k → ∃ ty : FieldType, md_at[k]? = some ty ∧ H1[H.size]? = some (vp_cell (G.2.2.1.1 k) (mj_arr ty (mj_new μ H.size t n k0) H.size))) : mj_W G (mj_new μ H.size t n k0) H1 := by
  obtain ⟨w1, w2, w3, w4, w5⟩ := hw
  have hv : ∀ (b : Nat) (ty : FieldType) (j : Nat), b ≠ H.size → mj_val ty (mj_new μ H.size t n k0) b j = mj_val ty μ b j := by
    intro b ty j hb
    cases ty <;> simp [mj_val, mj_i, mj_r, mj_l, mj_new, mj_w, hb]
  have ha : ∀ (b : Nat) (ty : FieldType), b ≠ H.size → mj_arr ty (mj_new μ H.size t n k0) b = mj_arr ty μ b := by
    intro b ty hb
    have e1 : mj_i (mj_new μ H.size t n k0) b = mj_i μ b := funext fun j => by simp [mj_i, mj_new, mj_w, hb]
    have e2 : mj_r (mj_new μ H.size t n k0) b = mj_r μ b := funext fun j => by simp [mj_r, mj_new, mj_w, hb]
    have e3 : mj_l (mj_new μ H.size t n k0) b = mj_l μ b := funext fun j => by simp [mj_l, mj_new, mj_w, hb]
    have e4 : mj_n (mj_new μ H.size t n k0) b = mj_n μ b := by simp [mj_n, mj_new, mj_w, hb]
    cases ty <;> simp [mj_arr, e1, e2, e3, e4]
  have hT : ∀ b, b ≠ H.size → mj_t (mj_new μ H.size t n k0) b = mj_t μ b := fun b hb => by simp [mj_t, mj_new, mj_w, hb]
  have hTs : mj_t (mj_new μ H.size t n k0) H.size = t := by simp [mj_t, mj_new, mj_w]
  refine ⟨by omega, fun q hq => by rw [o1 q (by omega)]; exact w2 q hq, fun b hb => ?_, fun b cj hj hb => ?_, fun b k hb => ?_⟩
  · by_cases h : b = H.size
    · subst h
      omega
    · rw [hT b h] at hb
      have := w3 b hb
      omega
  · by_cases h : b = H.size
    · subst h
      rw [hTs] at hb
      exact hO cj hj hb
    · rw [hT b h] at hb
      have hb2 := (w3 b (by rw [hb]; omega)).2
      obtain ⟨r, g1, g2⟩ := w4 b cj hj hb
      exact ⟨r, g1, (g2.kept (o1 b hb2)).to fun j _ => (hv b _ j h).symm⟩
  · by_cases h : b = H.size
    · subst h
      rw [hTs] at hb
      exact hA k hb
    · rw [hT b h] at hb
      have hb2 := (w3 b (by rw [hb]; omega)).2
      obtain ⟨q, g1, g2⟩ := w5 b k hb
      exact ⟨q, g1, by rw [o1 b hb2, ha b _ h]; exact g2⟩
theorem mj_W.free {H : Heap} (hw : mj_W G μ H) : mj_t μ H.size = 0 := by
  by_cases h : mj_t μ H.size = 0
  · exact h
  · have := (hw.2.2.1 _ h).2
    omega
theorem mj_val_new (ty : FieldType) (a t n k0 j : Nat) : mj_val ty (mj_new μ a t n k0) a j = mj_dv ty := by
  cases ty <;> simp [mj_val, mj_i, mj_r, mj_l, mj_new, mj_w, va_rf, mj_dv]
theorem mj_newO {ci index : Nat} {C : String} {T : u_T} {NF : Nat} (hc : mj_Cl ci C T NF) (hdef : ∀ k, k < NF → defaultValue (md_ty ci k) = mj_dv (md_ty ci k)) (hcl : Cond.classLink Y.1 index C ∈ md_Ts) (hinst : Cond.instantiable C NF ∈ md_Ts) (hini : Cond.initialized C ∈ md_Ts) (hdg : decode Y.2.1 pc = .ok (.new index, 3)) (h1 : mj_nc μ + 1 ≤ N) (h2 : mj_ns μ + NF ≤ S)
    (kk : ∀ a : Nat, mj_t μ a = 0 → mj_J G Y Ex N S (pc + 3) lv (va_rf (some a) :: st) (mj_new μ a (ci + 1) 0 NF)) : mj_J G Y Ex N S pc lv st μ := by
  intro p e R s m args below meth c Q C H locs cells slots ls hw hL hb hc' hs hl
  have hKn := C.2.2.2.2.2.1.1.1 ci _ hc.2.1
  obtain ⟨hb1, hb2⟩ := hb
  refine W.newcK C.1 C.2.1 C.2.2.2.1 (C.2.2.2.2.1 _ hcl) (C.2.2.2.2.1 _ hinst) (C.2.2.2.2.1 _ hini) rfl hdg (by omega) (by omega) hKn.2.1 rfl fun H1 kC hkC e1 z1 o1 => ?_
  refine kk H.size hw.free p e R s m args below meth c Q C H1 locs (cells + 1) (slots + NF) ls (hw.new o1 z1 (fun cj hj e => ?_) (fun k e => ?_)) hL ⟨h1, h2⟩ (by show cells + 1 + (N - (mj_nc μ + 1)) ≤ _; omega) (by show slots + NF + (S - (mj_ns μ + NF)) ≤ _; omega) hl
  · have hcj : cj = ci := by omega
    subst hcj
    exact ⟨_, hc.2.1, (u_born (md_ty cj) C.2.2.2.2.1 hc.2.2.2.2 hKn hkC e1 hc.2.2.1).to fun k hk => by rw [mj_val_new, hdef k hk]⟩
  · have := hc.1
    omega
theorem mj_tk {a b k t n k0 : Nat} (h : mj_t μ b = k) (hk : k ≠ 0) (hf : mj_t μ a = 0) : mj_t (mj_new μ a t n k0) b = k := by
  have hb : b ≠ a := fun e => hk (by rw [← h, e]; exact hf)
  simp only [mj_t, mj_new, mj_w, if_neg hb]
  exact h
theorem mj_tn {a t n k0 : Nat} : mj_t (mj_new μ a t n k0) a = t := by simp [mj_t, mj_new, mj_w]
end MJB
section MJC
variable {G : mj_G} {Y : mj_Y} {Ex : Option Value → mj_MM → Prop} {N S pc : Nat} {lv : List (Nat × Value)} {st : List Value} {μ : mj_MM}
theorem mj_good : ∀ w ∈ md_Ts, goodWord w = true := fun _ h => (List.mem_filter.mp h).2
/-- what every call wants of the tables, and of the room -/
def mj_CB (Y : mj_Y) (y : MethodName) (Yc : mj_Y) (index n : Nat) : Prop :=
  Cond.methodLink Y.1 index y ∈ md_Ts ∧ Cond.initialized y.cls ∈ md_Ts ∧ Cond.code y Yc.2.1 Yc.2.2.1 Yc.2.2.2.2.2.1 ∈ md_Ts ∧
  (y.cls ≠ "java/lang/invoke/MethodHandle" ∧ y.cls ≠ "java/lang/invoke/VarHandle" ∧ (parseMethodDescriptor y.desc).map (fun d => d.parameters.length) = some n) ∧ Yc.2.2.2.1 + 1 ≤ Y.2.2.2.1 ∧ 8 + (Yc.2.2.1 + 11) + Yc.2.2.2.2.1 ≤ Y.2.2.2.2.1
theorem mj_callB {y : MethodName} {Yc : mj_Y} {index n mc ms : Nat} {R : Room} {s : State} {args : Array Value} (hts : ∀ w ∈ md_Ts, w.before args s = true) (h : mj_CB Y y Yc index n) (hf : Y.2.2.2.1 ≤ R.frames) (hl : Y.2.2.2.2.1 ≤ R.locals) :
    CallB R s args Y.1 index y Yc.2.1 Yc.2.2.1 Yc.2.2.2.2.2.1 (Cond.code y Yc.2.1 Yc.2.2.1 Yc.2.2.2.2.2.1 :: md_Ts) ({ frames := Yc.2.2.2.1, cells := mc, slots := ms, locals := Yc.2.2.2.2.1 }) mc ms n := by
  obtain ⟨h1, h2, h3, h4, h5, h6⟩ := h
  refine callB_of (Ts := md_Ts) n hts (fun w hw => ?_) rfl rfl rfl (hts _ h2) (hts _ h1) h4 ⟨Nat.le_trans h5 hf, Nat.le_trans h6 hl⟩
  rcases List.mem_cons.mp hw with rfl | hw
  · exact ⟨h3, good_of_word (mj_good _ h3)⟩
  · exact ⟨hw, good_of_word (mj_good _ hw)⟩
theorem mj_blind {as : List Value} : FrameBlind (va_Pc as (fun U => mj_W G μ U.heap ∧ mj_K G U)) := fun a U g mk q => ⟨q.1, q.2.1, mj_K.same (u := U) (U := U.calling g mk a) rfl q.2.2⟩
/-- behind a call -/
theorem mj_after {p : Program} {e : Env} {R : Room} {s : State} {m : MethodId} {args : Array Value} {below : List Frame} {meth : Method} {c : Code} {Q : State → Prop} {H : Heap} {locs : List Loc} {cells slots N' S' : Nat} {ls : Array Slot} {st0 rest : List Value} {Ex' : Option Value → mj_MM → Prop} {a : Array Value}
    (C : mj_C G Y Ex p e R s m args below meth c Q) (hb0 : mj_nc μ ≤ N' ∧ mj_ns μ ≤ S') (hr : va_Run p G.1 e R s m args below meth c H locs cells slots (N' - mj_nc μ) (S' - mj_ns μ) (F0 m pc ls st0) rest ((fun (_ : Array Value) (_ : State) (o : Outcome) (t : State) => ∃ (v : Option Value) (μ' : mj_MM), o = .returned v ∧ (Ex' v μ' ∧ mj_nc μ' = N' ∧ mj_ns μ' = S') ∧ mj_W G μ' t.heap) a) (fun q => G.2.2.2.size ≤ q))
    (hL : ∀ q ∈ locs, G.2.2.2.size ≤ q.base) (hb : mj_nc μ ≤ N ∧ mj_ns μ ≤ S) (hc : cells + (N - mj_nc μ) ≤ R.cells) (hs : slots + (S - mj_ns μ) ≤ R.slots) (hl : lv_has ls Y.2.2.1 lv) (h1 : N' ≤ N ∧ S' ≤ S)
    (kk : ∀ (v : Option Value) (μ' : mj_MM), Ex' v μ' → mj_nc μ' = N' → mj_ns μ' = S' → mj_J G Y Ex N S (pc + 3) lv (v.toList ++ rest) μ') : W p G.1 e R s m args below meth c H locs cells slots Q (F0 m pc ls st0) := by
  intro T hT X
  obtain ⟨v, st₀, t, T', L, -, X', hLL, hh, -, ⟨v', μ', ho, ⟨hE, e1, e2⟩, hw'⟩, hgo⟩ := hr T hT X
  cases ho
  obtain ⟨t2, a2, b2⟩ := kk v μ' hE e1 e2 p e R s m args below meth c Q C T'.heap (locs ++ L) (cells + (N' - mj_nc μ)) (slots + (S' - mj_ns μ)) ls (by rw [hh]; exact hw') (t_lL hL hLL) (by rw [e1, e2]; exact h1) (by rw [e1]; omega) (by rw [e2]; omega) hl T' rfl X'
  exact ⟨t2, hgo t2 a2, b2⟩
theorem mj_callV {y : MethodName} {Yc : mj_Y} {As : List Value} {b ci index N' S' n : Nat} {Cn : String} {T : u_T} {NF : Nat} {rr : Option Nat} {Ex' : Option Value → mj_MM → Prop} (hrr : rr = some b) (hM : mj_M G y Yc (va_rf (some b) :: As) N' S' μ Ex') (hcl : mj_Cl ci Cn T NF) (ht : mj_t μ b = ci + 1) (hW : mj_CB Y y Yc index n) (hinst : Cond.instanceMethod y ∈ md_Ts) (hsel : Cond.selects Cn y y ∈ md_Ts) (hn : As.length = n) (hdg : decode Y.2.1 pc = .ok (.invokevirtual index, 3)) (hst : (st.map fun v => v.category).sum ≤ 8) (h1 : mj_nc μ ≤ N ∧ mj_ns μ ≤ S → N' ≤ N ∧ S' ≤ S)
    (kk : ∀ (v : Option Value) (μ' : mj_MM), Ex' v μ' → mj_nc μ' = N' → mj_ns μ' = S' → mj_J G Y Ex N S (pc + 3) lv (v.toList ++ st) μ') : mj_J G Y Ex N S pc lv (As.reverse ++ va_rf rr :: st) μ := by
  subst hrr
  intro p e R s m args below meth c Q C H locs cells slots ls hw hL hb hc hs hl
  refine mj_after (a := (va_rf (some b) :: As).toArray) C hM.1 (va_runV (As := As) (rest := st) (Ts := md_Ts) (nL := Y.2.2.1) ⟨C.1, C.2.1, C.2.2.1, C.2.2.2.1, C.2.2.2.2.1⟩ hM.2 ⟨mj_callB C.2.2.2.2.1 hW C.2.2.2.2.2.2.1 C.2.2.2.2.2.2.2.1, C.2.2.2.2.1 _ hinst, C.2.2.2.2.1 _ hsel⟩ ⟨mj_blind, ?_, fun U hU hWm => ⟨rfl, by rw [hU]; exact hw, mj_K.warm hWm C.2.2.2.2.2.1⟩⟩ rfl hn hl.1 rfl (lv_room hst) hdg ⟨by omega, by omega⟩) hL hb hc hs hl (h1 hb) kk
  obtain ⟨cell, q1, q2, q3, -⟩ := hw.obj hcl ht
  exact ⟨cell, q1, by rw [q3]; rfl, by rw [q2]; exact (C.2.2.2.2.2.1.1.1 ci _ hcl.2.1).2.1⟩
theorem mj_callI {y : MethodName} {Yc : mj_Y} {As : List Value} {b index N' S' n : Nat} {rr : Option Nat} {Ex' : Option Value → mj_MM → Prop} (hrr : rr = some b) (hM : mj_M G y Yc (va_rf (some b) :: As) N' S' μ Ex') (hW : mj_CB Y y Yc index n) (hret : Yc.2.2.2.2.2.1 = none) (hinit : y.name = "<init>") (hinst : Cond.instanceMethod y ∈ md_Ts) (hn : As.length = n) (hdg : decode Y.2.1 pc = .ok (.invokespecial index, 3)) (hst : (st.map fun v => v.category).sum ≤ 8) (h1 : mj_nc μ ≤ N ∧ mj_ns μ ≤ S → N' ≤ N ∧ S' ≤ S)
    (kk : ∀ (v : Option Value) (μ' : mj_MM), Ex' v μ' → mj_nc μ' = N' → mj_ns μ' = S' → mj_J G Y Ex N S (pc + 3) lv (v.toList ++ st) μ') : mj_J G Y Ex N S pc lv (As.reverse ++ va_rf rr :: st) μ := by
  subst hrr
  intro p e R s m args below meth c Q C H locs cells slots ls hw hL hb hc hs hl
  have hB := mj_callB (mc := N' - mj_nc μ) (ms := S' - mj_ns μ) C.2.2.2.2.1 hW C.2.2.2.2.2.2.1 C.2.2.2.2.2.2.2.1
  rw [hret] at hB
  obtain ⟨hb0, hM⟩ := hM
  rw [hret] at hM
  exact mj_after (a := (va_rf (some b) :: As).toArray) C hb0 (va_runI (As := As) (rest := st) (Ts := md_Ts) (nL := Y.2.2.1) ⟨C.1, C.2.1, C.2.2.1, C.2.2.2.1, C.2.2.2.2.1⟩ hM ⟨hB, hinit, C.2.2.2.2.1 _ hinst⟩ ⟨mj_blind, fun U hU hWm => ⟨rfl, by rw [hU]; exact hw, mj_K.warm hWm C.2.2.2.2.2.1⟩⟩ rfl hn hl.1 rfl (lv_room hst) hdg ⟨by omega, by omega⟩) hL hb hc hs hl (h1 hb) kk
theorem mj_callS {y : MethodName} {Yc : mj_Y} {As : List Value} {index N' S' n : Nat} {Ex' : Option Value → mj_MM → Prop} (hM : mj_M G y Yc As N' S' μ Ex') (hW : mj_CB Y y Yc index n) (hstat : Cond.static y ∈ md_Ts) (hn : As.length = n) (hdg : decode Y.2.1 pc = .ok (.invokestatic index, 3)) (hst : (st.map fun v => v.category).sum ≤ 8) (h1 : mj_nc μ ≤ N ∧ mj_ns μ ≤ S → N' ≤ N ∧ S' ≤ S)
    (kk : ∀ (v : Option Value) (μ' : mj_MM), Ex' v μ' → mj_nc μ' = N' → mj_ns μ' = S' → mj_J G Y Ex N S (pc + 3) lv (v.toList ++ st) μ') : mj_J G Y Ex N S pc lv (As.reverse ++ st) μ := by
  intro p e R s m args below meth c Q C H locs cells slots ls hw hL hb hc hs hl
  exact mj_after (a := As.toArray) C hM.1 (va_runS (As := As) (rest := st) (Ts := md_Ts) (nL := Y.2.2.1) ⟨C.1, C.2.1, C.2.2.1, C.2.2.2.1, C.2.2.2.2.1⟩ hM.2 ⟨mj_callB C.2.2.2.2.1 hW C.2.2.2.2.2.2.1 C.2.2.2.2.2.2.2.1, C.2.2.2.2.1 _ hstat⟩ ⟨mj_blind, fun U hU hWm => ⟨rfl, by rw [hU]; exact hw, mj_K.warm hWm C.2.2.2.2.2.1⟩⟩ rfl hn hl.1 rfl (lv_room hst) hdg ⟨by omega, by omega⟩) hL hb hc hs hl (h1 hb) kk
theorem mj_kV {P : mj_MM → Prop} {N' S' q : Nat} {l0 : List (Nat × Value)} {s0 : List Value} (kk : ∀ μ' : mj_MM, P μ' → mj_nc μ' = N' → mj_ns μ' = S' → mj_J G Y Ex N S q l0 s0 μ') : ∀ (v : Option Value) (μ' : mj_MM), mj_XV P v μ' → mj_nc μ' = N' → mj_ns μ' = S' → mj_J G Y Ex N S q l0 (v.toList ++ s0) μ' := by
  rintro v μ' ⟨rfl, h⟩ e1 e2
  exact kk μ' h e1 e2
theorem mj_kI {P : Int32 → mj_MM → Prop} {N' S' q : Nat} {l0 : List (Nat × Value)} {s0 : List Value} (kk : ∀ (x : Int32) (μ' : mj_MM), P x μ' → mj_nc μ' = N' → mj_ns μ' = S' → mj_J G Y Ex N S q l0 (.int x :: s0) μ') : ∀ (v : Option Value) (μ' : mj_MM), mj_XI P v μ' → mj_nc μ' = N' → mj_ns μ' = S' → mj_J G Y Ex N S q l0 (v.toList ++ s0) μ' := by
  rintro v μ' ⟨x, rfl, h⟩ e1 e2
  exact kk x μ' h e1 e2
theorem mj_kL {P : Int64 → mj_MM → Prop} {N' S' q : Nat} {l0 : List (Nat × Value)} {s0 : List Value} (kk : ∀ (x : Int64) (μ' : mj_MM), P x μ' → mj_nc μ' = N' → mj_ns μ' = S' → mj_J G Y Ex N S q l0 (.long x :: s0) μ') : ∀ (v : Option Value) (μ' : mj_MM), mj_XL P v μ' → mj_nc μ' = N' → mj_ns μ' = S' → mj_J G Y Ex N S q l0 (v.toList ++ s0) μ' := by
  rintro v μ' ⟨x, rfl, h⟩ e1 e2
  exact kk x μ' h e1 e2
theorem mj_kR {P : Option Nat → mj_MM → Prop} {N' S' q : Nat} {l0 : List (Nat × Value)} {s0 : List Value} (kk : ∀ (x : Option Nat) (μ' : mj_MM), P x μ' → mj_nc μ' = N' → mj_ns μ' = S' → mj_J G Y Ex N S q l0 (va_rf x :: s0) μ') : ∀ (v : Option Value) (μ' : mj_MM), mj_XR P v μ' → mj_nc μ' = N' → mj_ns μ' = S' → mj_J G Y Ex N S q l0 (v.toList ++ s0) μ' := by
  rintro v μ' ⟨x, rfl, h⟩ e1 e2
  exact kk x μ' h e1 e2
theorem mj_objInit {a idx : Nat} {rr : Option Nat} (hrr : rr = some a) (h1 : Cond.methodLink Y.1 idx Lib.objectInit ∈ md_Ts) (h2 : Cond.instanceMethod Lib.objectInit ∈ md_Ts) (h3 : Cond.code Lib.objectInit ⟨#[0xb1]⟩ 1 none ∈ md_Ts) (hdg : decode Y.2.1 pc = .ok (.invokespecial idx, 3)) (hf : 1 ≤ Y.2.2.2.1) (hlo : (st.map fun v => v.category).sum + 12 ≤ Y.2.2.2.2.1)
    (kk : mj_J G Y Ex N S (pc + 3) lv st μ) : mj_J G Y Ex N S pc lv (va_rf rr :: st) μ := by
  subst hrr
  intro p e R s m args below meth c Q C H locs cells slots ls hw hL hb hc hs hl
  exact W.objInit C.1 C.2.1 C.2.2.2.1 (C.2.2.2.2.1 _ h1) (C.2.2.2.2.1 _ h2) (C.2.2.2.2.1 _ h3) rfl (by rw [C.2.2.1]; exact hl.1) rfl hdg (Nat.le_trans hf C.2.2.2.2.2.2.1) (by have := C.2.2.2.2.2.2.2.1; show 2 * 0 + _ + 12 ≤ _; omega) (kk p e R s m args below meth c Q C H locs cells slots ls hw hL hb hc hs hl)
theorem mj_max {x y : Int32} {index : Nat} (h1 : Cond.methodLink Y.1 index Lib.Math.max.name ∈ md_Ts) (h2 : Cond.static Lib.Math.max.name ∈ md_Ts) (h3 : Cond.initialized "java/lang/Math" ∈ md_Ts) (h4 : Cond.code Lib.Math.max.name Lib.Math.max.code 2 (some .int) ∈ md_Ts) (hdg : decode Y.2.1 pc = .ok (.invokestatic index, 3)) (hf : 1 ≤ Y.2.2.2.1) (hlo : (st.map fun v => v.category).sum + 13 ≤ Y.2.2.2.2.1)
    (kk : mj_J G Y Ex N S (pc + 3) lv (.int (if x < y then y else x) :: st) μ) : mj_J G Y Ex N S pc lv (.int y :: .int x :: st) μ := by
  intro p e R s m args below meth c Q C H locs cells slots ls hw hL hb hc hs hl
  exact va_mmax C.1 C.2.1 (by rw [C.2.2.1]; exact hl.1.symm) C.2.2.2.1 (C.2.2.2.2.1 _ h1) (C.2.2.2.2.1 _ h2) (C.2.2.2.2.1 _ h3) (C.2.2.2.2.1 _ h4) (Nat.le_trans hf C.2.2.2.2.2.2.1) (Nat.le_trans hlo C.2.2.2.2.2.2.2.1) (by omega) (by omega) hdg (kk p e R s m args below meth c Q C H locs cells slots ls hw hL hb hc hs hl)
theorem mj_min {x y : Int32} {index : Nat} (h1 : Cond.methodLink Y.1 index Lib.Math.min.name ∈ md_Ts) (h2 : Cond.static Lib.Math.min.name ∈ md_Ts) (h3 : Cond.initialized "java/lang/Math" ∈ md_Ts) (h4 : Cond.code Lib.Math.min.name Lib.Math.min.code 2 (some .int) ∈ md_Ts) (hdg : decode Y.2.1 pc = .ok (.invokestatic index, 3)) (hf : 1 ≤ Y.2.2.2.1) (hlo : (st.map fun v => v.category).sum + 13 ≤ Y.2.2.2.2.1)
    (kk : mj_J G Y Ex N S (pc + 3) lv (.int (if y < x then y else x) :: st) μ) : mj_J G Y Ex N S pc lv (.int y :: .int x :: st) μ := by
  intro p e R s m args below meth c Q C H locs cells slots ls hw hL hb hc hs hl
  exact va_mmin C.1 C.2.1 (by rw [C.2.2.1]; exact hl.1.symm) C.2.2.2.1 (C.2.2.2.2.1 _ h1) (C.2.2.2.2.1 _ h2) (C.2.2.2.2.1 _ h3) (C.2.2.2.2.1 _ h4) (Nat.le_trans hf C.2.2.2.2.2.2.1) (Nat.le_trans hlo C.2.2.2.2.2.2.2.1) (by omega) (by omega) hdg (kk p e R s m args below meth c Q C H locs cells slots ls hw hL hb hc hs hl)
end MJC
section MJD
variable {G : mj_G} {Y : mj_Y} {Ex : Option Value → mj_MM → Prop} {N S pc : Nat} {lv : List (Nat × Value)} {st : List Value} {μ : mj_MM}
theorem mj_cell (cA : ClassId) (ty : FieldType) (a : Nat) : vp_cell cA (mj_arr ty μ a) = arrV cA (mj_n μ a) (fun j => mj_val ty μ a j) := by cases ty <;> rfl
theorem mj_W.arr {H : Heap} {a t : Nat} {ty : FieldType} (hw : mj_W G μ H) (hty : md_at[t]? = some ty) (ht : mj_t μ a = 1000 + t) : H[a]? = some (arrV (G.2.2.1.1 t) (mj_n μ a) (fun j => mj_val ty μ a j)) := by
  obtain ⟨ty', h1, h2⟩ := hw.2.2.2.2 a t ht
  cases hty.symm.trans h1
  rw [h2, mj_cell]
theorem mj_alen {a t : Nat} {rr : Option Nat} (hrr : rr = some a) {ty : FieldType} (hty : md_at[t]? = some ty) (ht : mj_t μ a = 1000 + t) (hdg : decode Y.2.1 pc = .ok (.arraylength, 1)) (kk : mj_J G Y Ex N S (pc + 1) lv (.int (nI (mj_n μ a)) :: st) μ) : mj_J G Y Ex N S pc lv (va_rf rr :: st) μ := by
  subst hrr
  intro p e R s m args below meth c Q C H locs cells slots ls hw hL hb hc hs hl
  exact W.alen (n := nI (mj_n μ a)) C.1 C.2.1 (hw.arr hty ht) ((C.2.2.2.2.2.1.2.1 t ty hty).1 _ _) (by rw [arrV_size]; rfl) rfl rfl hdg (kk p e R s m args below meth c Q C H locs cells slots ls hw hL hb hc hs hl)
theorem mj_inA {cA : ClassId} {n : Nat} {f : Nat → Value} {i : Int32} (hin : vp_in i n) : ¬ (i < 0 ∨ (arrV cA n f).slots.size ≤ i.toNatClampNeg) := by
  rw [arrV_size]
  exact hin
theorem mj_atA {cA : ClassId} {n : Nat} {f : Nat → Value} {i : Int32} (hin : vp_in i n) : (arrV cA n f).slots[i.toNatClampNeg]? = some (f i.toNatClampNeg) := arrV_read _ _ (Nat.not_le.mp fun q => hin (Or.inr q))
theorem mj_iald {a t : Nat} {rr : Option Nat} (hrr : rr = some a) {i : Int32} (hty : md_at[t]? = some .int) (ht : mj_t μ a = 1000 + t) (hin : vp_in i (mj_n μ a)) (hdg : decode Y.2.1 pc = .ok (.iaload, 1)) (kk : mj_J G Y Ex N S (pc + 1) lv (.int (mj_i μ a i.toNatClampNeg) :: st) μ) : mj_J G Y Ex N S pc lv (.int i :: va_rf rr :: st) μ := by
  subst hrr
  intro p e R s m args below meth c Q C H locs cells slots ls hw hL hb hc hs hl
  exact W.iald C.1 C.2.1 (hw.arr hty ht) ((C.2.2.2.2.2.1.2.1 t _ hty).1 _ _) (fun q => by cases q) (mj_inA hin) (mj_atA hin) rfl rfl hdg (kk p e R s m args below meth c Q C H locs cells slots ls hw hL hb hc hs hl)
theorem mj_sald {a t : Nat} {rr : Option Nat} (hrr : rr = some a) {i : Int32} (hty : md_at[t]? = some .short) (ht : mj_t μ a = 1000 + t) (hin : vp_in i (mj_n μ a)) (hdg : decode Y.2.1 pc = .ok (.saload, 1)) (kk : mj_J G Y Ex N S (pc + 1) lv (.int (mj_i μ a i.toNatClampNeg) :: st) μ) : mj_J G Y Ex N S pc lv (.int i :: va_rf rr :: st) μ := by
  subst hrr
  intro p e R s m args below meth c Q C H locs cells slots ls hw hL hb hc hs hl
  exact W.sald C.1 C.2.1 (hw.arr hty ht) ((C.2.2.2.2.2.1.2.1 t _ hty).1 _ _) (fun q => by cases q) (mj_inA hin) (mj_atA hin) rfl rfl hdg (kk p e R s m args below meth c Q C H locs cells slots ls hw hL hb hc hs hl)
theorem mj_zald {a t : Nat} {rr : Option Nat} (hrr : rr = some a) {i : Int32} (hty : md_at[t]? = some .boolean) (ht : mj_t μ a = 1000 + t) (hin : vp_in i (mj_n μ a)) (hdg : decode Y.2.1 pc = .ok (.baload, 1)) (kk : mj_J G Y Ex N S (pc + 1) lv (.int (mj_i μ a i.toNatClampNeg) :: st) μ) : mj_J G Y Ex N S pc lv (.int i :: va_rf rr :: st) μ := by
  subst hrr
  intro p e R s m args below meth c Q C H locs cells slots ls hw hL hb hc hs hl
  exact W.zald C.1 C.2.1 (hw.arr hty ht) ((C.2.2.2.2.2.1.2.1 t _ hty).1 _ _) (fun q => by cases q) (mj_inA hin) (mj_atA hin) rfl rfl hdg (kk p e R s m args below meth c Q C H locs cells slots ls hw hL hb hc hs hl)
theorem mj_lald {a t : Nat} {rr : Option Nat} (hrr : rr = some a) {i : Int32} (hty : md_at[t]? = some .long) (ht : mj_t μ a = 1000 + t) (hin : vp_in i (mj_n μ a)) (hdg : decode Y.2.1 pc = .ok (.laload, 1)) (kk : mj_J G Y Ex N S (pc + 1) lv (.long (mj_l μ a i.toNatClampNeg) :: st) μ) : mj_J G Y Ex N S pc lv (.int i :: va_rf rr :: st) μ := by
  subst hrr
  intro p e R s m args below meth c Q C H locs cells slots ls hw hL hb hc hs hl
  exact W.lald C.1 C.2.1 (hw.arr hty ht) ((C.2.2.2.2.2.1.2.1 t _ hty).1 _ _) (fun q => by cases q) (mj_inA hin) (mj_atA hin) rfl rfl hdg (kk p e R s m args below meth c Q C H locs cells slots ls hw hL hb hc hs hl)
theorem mj_aald {a t : Nat} {rr : Option Nat} (hrr : rr = some a) {i : Int32} {ty : FieldType} (hty : md_at[t]? = some ty) (hr : mj_ref ty = true) (ht : mj_t μ a = 1000 + t) (hin : vp_in i (mj_n μ a)) (hdg : decode Y.2.1 pc = .ok (.aaload, 1)) (kk : mj_J G Y Ex N S (pc + 1) lv (va_rf (mj_r μ a i.toNatClampNeg) :: st) μ) : mj_J G Y Ex N S pc lv (.int i :: va_rf rr :: st) μ := by
  subst hrr
  intro p e R s m args below meth c Q C H locs cells slots ls hw hL hb hc hs hl
  exact W.aald (ty := ty) C.1 C.2.1 (hw.arr hty ht) ((C.2.2.2.2.2.1.2.1 t _ hty).1 _ _) (by cases ty <;> first | rfl | (exact absurd hr Bool.false_ne_true)) (fun q => by cases q) (mj_inA hin) (by rw [mj_atA hin]; cases ty <;> first | rfl | (exact absurd hr Bool.false_ne_true)) rfl rfl hdg (kk p e R s m args below meth c Q C H locs cells slots ls hw hL hb hc hs hl)
/-- one array's cell has changed in one place -/
theorem mj_W.putA {H H' : Heap} {μ' : mj_MM} {a t k : Nat} {ty : FieldType} {v : Value} (hw : mj_W G μ H) (hty : md_at[t]? = some ty) (ht : mj_t μ a = 1000 + t)
    (e1 : H'[a]? = some ((arrV (G.2.2.1.1 t) (mj_n μ a) (fun j => mj_val ty μ a j)).setSlot k v)) (e2 : H'.size = H.size) (e3 : ∀ q, q ≠ a → H'[q]? = H[q]?) (h1 : ∀ b, mj_t μ' b = mj_t μ b) (h0 : mj_n μ' a = mj_n μ a)
    (h2 : ∀ j, mj_val ty μ' a j = updV (fun j => mj_val ty μ a j) k v j) (h3 : ∀ (b : Nat) (ty : FieldType) (j : Nat), b ≠ a → mj_val ty μ' b j = mj_val ty μ b j) (h4 : ∀ (b : Nat) (ty : FieldType), b ≠ a → mj_arr ty μ' b = mj_arr ty μ b) : mj_W G μ' H' := by
  obtain ⟨w1, w2, w3, w4, w5⟩ := hw
  have ha : G.2.2.2.size ≤ a := (w3 a (by rw [ht]; omega)).1
  refine ⟨by rw [e2]; exact w1, fun q hq => by rw [e3 q (by omega)]; exact w2 q hq, fun b hb => by rw [e2]; exact w3 b (by rw [← h1]; exact hb), fun b cj hj hb => ?_, fun b t' hb => ?_⟩
  · rw [h1] at hb
    by_cases hba : b = a
    · subst hba
      rw [ht] at hb
      omega
    · obtain ⟨r, g1, g2⟩ := w4 b cj hj hb
      exact ⟨r, g1, (g2.kept (e3 b hba)).to fun j _ => (h3 b _ j hba).symm⟩
  · rw [h1] at hb
    by_cases hba : b = a
    · subst hba
      have htt : t' = t := by rw [ht] at hb; omega
      subst htt
      refine ⟨ty, hty, ?_⟩
      rw [e1, mj_cell, arrV_store, h0]
      congr 2
      funext j
      exact (h2 j).symm
    · obtain ⟨q, g1, g2⟩ := w5 b t' hb
      exact ⟨q, g1, by rw [e3 b hba, h4 b _ hba]; exact g2⟩
theorem mj_iast {a t : Nat} {rr : Option Nat} (hrr : rr = some a) {i x : Int32} (hty : md_at[t]? = some .int) (ht : mj_t μ a = 1000 + t) (hin : vp_in i (mj_n μ a)) (hdg : decode Y.2.1 pc = .ok (.iastore, 1)) (kk : mj_J G Y Ex N S (pc + 1) lv st (mj_pI μ a i.toNatClampNeg x)) : mj_J G Y Ex N S pc lv (.int x :: .int i :: va_rf rr :: st) μ := by
  subst hrr
  intro p e R s m args below meth c Q C H locs cells slots ls hw hL hb hc hs hl
  have ha : G.2.2.2.size ≤ a := (hw.2.2.1 a (by rw [ht]; omega)).1
  refine W.iast C.1 C.2.1 (hw.arr hty ht) ((C.2.2.2.2.2.1.2.1 t _ hty).1 _ _) (fun q => by cases q) (mj_inA hin) rfl rfl hdg fun H' e1 e2 e3 => ?_
  refine kk p e R s m args below meth c Q C H' _ cells slots ls (hw.putA hty ht e1 e2 e3 (fun b => rfl) rfl (fun j => ?_) (fun b ty j hb => mj_val_pI ty a _ x hb) (fun b ty hb => mj_arr_pI ty a _ x hb)) (t_lc hL ha) hb hc hs hl
  by_cases hj : j = i.toNatClampNeg
  · subst hj
    simp [mj_val, mj_i, mj_pI, mj_u_self, updV]
  · simp [mj_val, mj_i, mj_pI, mj_u, updV, hj]
theorem mj_zast {a t : Nat} {rr : Option Nat} (hrr : rr = some a) {i x : Int32} (hty : md_at[t]? = some .boolean) (ht : mj_t μ a = 1000 + t) (hin : vp_in i (mj_n μ a)) (hx : narrow .boolean (.int x) = .int x) (hdg : decode Y.2.1 pc = .ok (.bastore, 1)) (kk : mj_J G Y Ex N S (pc + 1) lv st (mj_pI μ a i.toNatClampNeg x)) : mj_J G Y Ex N S pc lv (.int x :: .int i :: va_rf rr :: st) μ := by
  subst hrr
  intro p e R s m args below meth c Q C H locs cells slots ls hw hL hb hc hs hl
  have ha : G.2.2.2.size ≤ a := (hw.2.2.1 a (by rw [ht]; omega)).1
  refine W.zast C.1 C.2.1 (hw.arr hty ht) ((C.2.2.2.2.2.1.2.1 t _ hty).1 _ _) (fun q => by cases q) (mj_inA hin) rfl rfl hdg fun H' e1 e2 e3 => ?_
  rw [hx] at e1
  refine kk p e R s m args below meth c Q C H' _ cells slots ls (hw.putA hty ht e1 e2 e3 (fun b => rfl) rfl (fun j => ?_) (fun b ty j hb => mj_val_pI ty a _ x hb) (fun b ty hb => mj_arr_pI ty a _ x hb)) (t_lc hL ha) hb hc hs hl
  by_cases hj : j = i.toNatClampNeg
  · subst hj
    simp [mj_val, mj_i, mj_pI, mj_u_self, updV]
  · simp [mj_val, mj_i, mj_pI, mj_u, updV, hj]
theorem mj_sast {a t : Nat} {rr : Option Nat} (hrr : rr = some a) {i x : Int32} (hty : md_at[t]? = some .short) (ht : mj_t μ a = 1000 + t) (hin : vp_in i (mj_n μ a)) (hx : narrow .short (.int x) = .int x) (hdg : decode Y.2.1 pc = .ok (.sastore, 1)) (kk : mj_J G Y Ex N S (pc + 1) lv st (mj_pI μ a i.toNatClampNeg x)) : mj_J G Y Ex N S pc lv (.int x :: .int i :: va_rf rr :: st) μ := by
  subst hrr
  intro p e R s m args below meth c Q C H locs cells slots ls hw hL hb hc hs hl
  have ha : G.2.2.2.size ≤ a := (hw.2.2.1 a (by rw [ht]; omega)).1
  refine W.sast C.1 C.2.1 (hw.arr hty ht) ((C.2.2.2.2.2.1.2.1 t _ hty).1 _ _) (fun q => by cases q) (mj_inA hin) rfl rfl hdg fun H' e1 e2 e3 => ?_
  rw [hx] at e1
  refine kk p e R s m args below meth c Q C H' _ cells slots ls (hw.putA hty ht e1 e2 e3 (fun b => rfl) rfl (fun j => ?_) (fun b ty j hb => mj_val_pI ty a _ x hb) (fun b ty hb => mj_arr_pI ty a _ x hb)) (t_lc hL ha) hb hc hs hl
  by_cases hj : j = i.toNatClampNeg
  · subst hj
    simp [mj_val, mj_i, mj_pI, mj_u_self, updV]
  · simp [mj_val, mj_i, mj_pI, mj_u, updV, hj]
theorem mj_last {a t : Nat} {rr : Option Nat} (hrr : rr = some a) {i : Int32} {x : Int64} (hty : md_at[t]? = some .long) (ht : mj_t μ a = 1000 + t) (hin : vp_in i (mj_n μ a)) (hdg : decode Y.2.1 pc = .ok (.lastore, 1)) (kk : mj_J G Y Ex N S (pc + 1) lv st (mj_pL μ a i.toNatClampNeg x)) : mj_J G Y Ex N S pc lv (.long x :: .int i :: va_rf rr :: st) μ := by
  subst hrr
  intro p e R s m args below meth c Q C H locs cells slots ls hw hL hb hc hs hl
  have ha : G.2.2.2.size ≤ a := (hw.2.2.1 a (by rw [ht]; omega)).1
  refine W.last C.1 C.2.1 (hw.arr hty ht) ((C.2.2.2.2.2.1.2.1 t _ hty).1 _ _) (fun q => by cases q) (mj_inA hin) rfl rfl hdg fun H' e1 e2 e3 => ?_
  refine kk p e R s m args below meth c Q C H' _ cells slots ls (hw.putA hty ht e1 e2 e3 (fun b => rfl) rfl (fun j => ?_) (fun b ty j hb => mj_val_pL ty a _ x hb) (fun b ty hb => mj_arr_pL ty a _ x hb)) (t_lc hL ha) hb hc hs hl
  by_cases hj : j = i.toNatClampNeg
  · subst hj
    simp [mj_val, mj_l, mj_pL, mj_u_self, updV]
  · simp [mj_val, mj_l, mj_pL, mj_u, updV, hj]
theorem mj_upR {ty : FieldType} {a k : Nat} {x : Option Nat} (hr : mj_ref ty = true) (j : Nat) : mj_val ty (mj_pR μ a k x) a j = updV (fun j => mj_val ty μ a j) k (va_rf x) j := by
  unfold updV
  by_cases hj : j = k
  · subst hj
    rw [if_pos rfl]
    cases ty <;> first | (exact absurd hr Bool.false_ne_true) | (simp [mj_val, mj_r, mj_pR, mj_u_self])
  · rw [if_neg hj]
    cases ty <;> simp [mj_val, mj_i, mj_r, mj_l, mj_pR, mj_u, hj]
/-- an object of the component's class into an array of references -/
theorem mj_aast {a t v : Nat} {rr rv : Option Nat} (hrr : rr = some a) (hrv : rv = some v) {i : Int32} {ci : Nat} {Cn : String} {T : u_T} {NF : Nat} (hty : md_at[t]? = some (.object Cn)) (ht : mj_t μ a = 1000 + t) (hcl : mj_Cl ci Cn T NF) (hv : mj_t μ v = ci + 1) (hin : vp_in i (mj_n μ a)) (hdg : decode Y.2.1 pc = .ok (.aastore, 1)) (kk : mj_J G Y Ex N S (pc + 1) lv st (mj_pR μ a i.toNatClampNeg (some v))) : mj_J G Y Ex N S pc lv (va_rf rv :: .int i :: va_rf rr :: st) μ := by
  subst hrr; subst hrv
  intro p e R s m args below meth c Q C H locs cells slots ls hw hL hb hc hs hl
  have ha : G.2.2.2.size ≤ a := (hw.2.2.1 a (by rw [ht]; omega)).1
  obtain ⟨-, -, hA⟩ := C.2.2.2.2.2.1.2.1 t _ hty
  obtain ⟨kA, comp, q1, q2, q3, -⟩ := hA rfl
  obtain ⟨cell, g1, g2, g3, -⟩ := hw.obj hcl hv
  have hK := C.2.2.2.2.2.1.1.1 ci _ hcl.2.1
  have hcomp : comp = G.2.1.1 ci := Option.some.inj (q3.symm.trans hK.2.1)
  obtain ⟨-, kC, hkC, -⟩ := hK.2
  refine W.aast C.1 C.2.1 (hw.arr hty ht) (fun q h => by cases h) (fun h => by cases h) q1 q2 rfl (by rw [hcomp]; exact hkC) ⟨fun q => hin (Or.inl q), by rw [arrV_size]; exact Nat.not_le.mp fun q => hin (Or.inr q)⟩ g1 (fun q h => by rw [g3] at h; cases h) (by rw [g2]; exact hkC) (by rw [g2, hcomp]; exact va_asg _ _) rfl rfl hdg fun H' e1 e2 e3 => ?_
  exact kk p e R s m args below meth c Q C H' _ cells slots ls (hw.putA (v := va_rf (some v)) hty ht e1 e2 e3 (fun b => rfl) rfl (mj_upR rfl) (fun b ty j hb => mj_val_pR ty a _ _ hb) (fun b ty hb => mj_arr_pR ty a _ _ hb)) (t_lc hL ha) hb hc hs hl
/-- null into an array of objects -/
theorem mj_aastN {a t : Nat} {rr rv : Option Nat} (hrr : rr = some a) (hrv : rv = none) {i : Int32} {Cn : String} (hty : md_at[t]? = some (.object Cn)) (ht : mj_t μ a = 1000 + t) (hin : vp_in i (mj_n μ a)) (hdg : decode Y.2.1 pc = .ok (.aastore, 1)) (kk : mj_J G Y Ex N S (pc + 1) lv st (mj_pR μ a i.toNatClampNeg none)) : mj_J G Y Ex N S pc lv (va_rf rv :: .int i :: va_rf rr :: st) μ := by
  subst hrr; subst hrv
  intro p e R s m args below meth c Q C H locs cells slots ls hw hL hb hc hs hl
  have ha : G.2.2.2.size ≤ a := (hw.2.2.1 a (by rw [ht]; omega)).1
  refine va_WaastN C.1 C.2.1 (hw.arr hty ht) ((C.2.2.2.2.2.1.2.1 t _ hty).1 _ _) (fun q => by cases q) (mj_inA hin) rfl rfl hdg fun H' e1 e2 e3 => ?_
  exact kk p e R s m args below meth c Q C H' _ cells slots ls (hw.putA (v := va_rf none) hty ht e1 e2 e3 (fun b => rfl) rfl (mj_upR rfl) (fun b ty j hb => mj_val_pR ty a _ _ hb) (fun b ty hb => mj_arr_pR ty a _ _ hb)) (t_lc hL ha) hb hc hs hl
/-- an array into an array of arrays -/
theorem mj_aastA {a t v tv : Nat} {rr rv : Option Nat} (hrr : rr = some a) (hrv : rv = some v) {i : Int32} {tc : FieldType} (hty : md_at[t]? = some (.array tc)) (ht : mj_t μ a = 1000 + t) (htv : md_at[tv]? = some tc) (hv : mj_t μ v = 1000 + tv) (hin : vp_in i (mj_n μ a)) (hdg : decode Y.2.1 pc = .ok (.aastore, 1)) (kk : mj_J G Y Ex N S (pc + 1) lv st (mj_pR μ a i.toNatClampNeg (some v))) : mj_J G Y Ex N S pc lv (va_rf rv :: .int i :: va_rf rr :: st) μ := by
  subst hrr; subst hrv
  intro p e R s m args below meth c Q C H locs cells slots ls hw hL hb hc hs hl
  have ha : G.2.2.2.size ≤ a := (hw.2.2.1 a (by rw [ht]; omega)).1
  obtain ⟨-, -, hA⟩ := C.2.2.2.2.2.1.2.1 t _ hty
  obtain ⟨kA, comp, q1, q2, q3, -⟩ := hA rfl
  have g1 := hw.arr htv hv
  obtain ⟨g2, g3, -⟩ := C.2.2.2.2.2.1.2.1 tv _ htv
  have hcomp : comp = G.2.2.1.1 tv := Option.some.inj (q3.symm.trans g3)
  obtain ⟨kC, hkC, -⟩ := Vm.findClass_spec g3
  refine W.aast C.1 C.2.1 (hw.arr hty ht) (fun q h => by cases h) (fun h => by cases h) q1 q2 rfl (by rw [hcomp]; exact hkC) ⟨fun q => hin (Or.inl q), by rw [arrV_size]; exact Nat.not_le.mp fun q => hin (Or.inr q)⟩ g1 (fun q h => by cases h) hkC (by rw [hcomp]; exact va_asg _ _) rfl rfl hdg fun H' e1 e2 e3 => ?_
  exact kk p e R s m args below meth c Q C H' _ cells slots ls (hw.putA (v := va_rf (some v)) hty ht e1 e2 e3 (fun b => rfl) rfl (mj_upR rfl) (fun b ty j hb => mj_val_pR ty a _ _ hb) (fun b ty hb => mj_arr_pR ty a _ _ hb)) (t_lc hL ha) hb hc hs hl
theorem mj_blankA (ty : FieldType) (a t n k0 : Nat) (cA : ClassId) (d : Value) (hd : d = mj_dv ty) : vp_cell cA (mj_arr ty (mj_new μ a t n k0) a) = arrV cA n (fun _ => d) := by
  rw [mj_cell]
  have e : mj_n (mj_new μ a t n k0) a = n := by simp [mj_n, mj_new, mj_w]
  rw [e]
  congr 1
  funext j
  rw [mj_val_new, hd]
theorem mj_newa {t : Nat} {ty : FieldType} {atype : ArrayType} {n : Int32} {NA : Nat} (hty : md_at[t]? = some ty) (hat : newarray.typeOf atype = ty) (hd : defaultValue ty = mj_dv ty) (hw0 : Cond.arrayClass ty ∈ md_Ts) (hdg : decode Y.2.1 pc = .ok (.newarray atype, 2)) (hn : n = nI NA) (hN : NA * componentBytes ty ≤ 536870912) (hN2 : NA < 2 ^ 31) (h1 : mj_nc μ + 1 ≤ N) (h2 : mj_ns μ + NA ≤ S)
    (kk : ∀ a : Nat, mj_t μ a = 0 → mj_J G Y Ex N S (pc + 2) lv (va_rf (some a) :: st) (mj_new μ a (1000 + t) NA NA)) : mj_J G Y Ex N S pc lv (.int n :: st) μ := by
  intro p e R s m args below meth c Q C H locs cells slots ls hw hL hb hc hs hl
  subst hn
  obtain ⟨hb1, hb2⟩ := hb
  subst hat
  have hcl : (nI NA).toNatClampNeg = NA := nI_clamp hN2
  refine va_newaK C.1 C.2.1 (C.2.2.2.2.1 _ hw0) rfl hdg rfl (nI_pos hN2) hcl hN (by omega) (by omega) rfl fun H1 cA e1 z1 o1 hAr hNm => ?_
  have hcA : cA = G.2.2.1.1 t := Option.some.inj (hNm.symm.trans (C.2.2.2.2.2.1.2.1 t _ hty).2.1)
  refine kk H.size hw.free p e R s m args below meth c Q C H1 locs (cells + 1) (slots + NA) ls (hw.new o1 z1 (fun cj hj e => by omega) (fun k e => ?_)) hL ⟨h1, h2⟩ (by show cells + 1 + (N - (mj_nc μ + 1)) ≤ _; omega) (by show slots + NA + (S - (mj_ns μ + NA)) ≤ _; omega) hl
  have hk : k = t := by omega
  subst hk
  exact ⟨_, hty, by rw [e1, mj_blankA _ _ _ _ _ _ _ hd, hcA]⟩
theorem mj_push {H : Heap} {cell : Cell} : (∀ q, q < H.size → (H.push cell)[q]? = H[q]?) ∧ (H.push cell)[H.size]? = some cell ∧ (H.push cell).size = H.size + 1 := by
  refine ⟨fun q hq => ?_, by simp, by simp⟩
  rw [Array.getElem?_push]
  simp [Nat.ne_of_lt hq]
theorem mj_newq {t index : Nat} {Cn : String} {n : Int32} {NA : Nat} (hty : md_at[t]? = some (.object Cn)) (hcl : Cond.classLink Y.1 index Cn ∈ md_Ts) (hdg : decode Y.2.1 pc = .ok (.anewarray index, 3)) (hn : n = nI NA) (hN : NA * 4 ≤ 536870912) (h1 : mj_nc μ + 1 ≤ N) (h2 : mj_ns μ + NA ≤ S)
    (kk : ∀ a : Nat, mj_t μ a = 0 → mj_J G Y Ex N S (pc + 3) lv (va_rf (some a) :: st) (mj_new μ a (1000 + t) NA NA)) : mj_J G Y Ex N S pc lv (.int n :: st) μ := by
  intro p e R s m args below meth c Q C H locs cells slots ls hw hL hb hc hs hl
  subst hn
  obtain ⟨hb1, hb2⟩ := hb
  have hN2 : NA < 2 ^ 31 := by omega
  have hcl2 : (nI NA).toNatClampNeg = NA := nI_clamp hN2
  have hA := C.2.2.2.2.2.1.2.1 t _ hty
  refine W.anew C.1 C.2.1 C.2.2.2.1 (C.2.2.2.2.1 _ hcl) (hA.over rfl) rfl hdg rfl (nI_pos hN2) (by rw [hcl2]; exact hN) (by omega) (by rw [hcl2]; omega) fun cA kA comp f1 f2 f3 f4 => ?_
  have hcA : cA = G.2.2.1.1 t := Option.some.inj (f1.symm.trans hA.2.1)
  obtain ⟨o1, e1, z1⟩ := mj_push (H := H) (cell := { cls := cA, slots := Array.replicate (nI NA).toNatClampNeg .null, vm := .none })
  rw [hcl2] at e1 z1 o1 ⊢
  refine kk H.size hw.free p e R s m args below meth c Q C _ locs (cells + 1) (slots + NA) ls (hw.new o1 z1 (fun cj hj e => by omega) (fun k e => ?_)) hL ⟨h1, h2⟩ (by show cells + 1 + (N - (mj_nc μ + 1)) ≤ _; omega) (by show slots + NA + (S - (mj_ns μ + NA)) ≤ _; omega) hl
  have hk : k = t := by omega
  subst hk
  refine ⟨_, hty, ?_⟩
  rw [e1, mj_blankA _ _ _ _ _ _ .null rfl, hcA]
  simp only [arrV]
  congr 2
  apply Array.ext <;> simp
theorem mj_newqA {t index : Nat} {tc : FieldType} {n : Int32} {NA : Nat} (hty : md_at[t]? = some (.array tc)) (hcl : Cond.classLink Y.1 index (FieldType.array tc).toString ∈ md_Ts) (hdg : decode Y.2.1 pc = .ok (.anewarray index, 3)) (hn : n = nI NA) (hN : NA * 4 ≤ 536870912) (h1 : mj_nc μ + 1 ≤ N) (h2 : mj_ns μ + NA ≤ S)
    (kk : ∀ a : Nat, mj_t μ a = 0 → mj_J G Y Ex N S (pc + 3) lv (va_rf (some a) :: st) (mj_new μ a (1000 + t) NA NA)) : mj_J G Y Ex N S pc lv (.int n :: st) μ := by
  intro p e R s m args below meth c Q C H locs cells slots ls hw hL hb hc hs hl
  subst hn
  obtain ⟨hb1, hb2⟩ := hb
  have hN2 : NA < 2 ^ 31 := by omega
  have hcl2 : (nI NA).toNatClampNeg = NA := nI_clamp hN2
  have hA := C.2.2.2.2.2.1.2.1 t _ hty
  refine W.anewA C.1 C.2.1 C.2.2.2.1 (C.2.2.2.2.1 _ hcl) (hA.over rfl) rfl hdg rfl (nI_pos hN2) (by rw [hcl2]; exact hN) (by omega) (by rw [hcl2]; omega) fun cA kA comp f1 f2 f3 f4 => ?_
  have hcA : cA = G.2.2.1.1 t := Option.some.inj (f1.symm.trans hA.2.1)
  obtain ⟨o1, e1, z1⟩ := mj_push (H := H) (cell := { cls := cA, slots := Array.replicate (nI NA).toNatClampNeg .null, vm := .none })
  rw [hcl2] at e1 z1 o1 ⊢
  refine kk H.size hw.free p e R s m args below meth c Q C _ locs (cells + 1) (slots + NA) ls (hw.new o1 z1 (fun cj hj e => by omega) (fun k e => ?_)) hL ⟨h1, h2⟩ (by show cells + 1 + (N - (mj_nc μ + 1)) ≤ _; omega) (by show slots + NA + (S - (mj_ns μ + NA)) ≤ _; omega) hl
  have hk : k = t := by omega
  subst hk
  refine ⟨_, hty, ?_⟩
  rw [e1, mj_blankA _ _ _ _ _ _ .null rfl, hcA]
  simp only [arrV]
  congr 2
  apply Array.ext <;> simp
/-- an old array of ints: the class's tables, the script -/
theorem mj_old {H : Heap} {s : State} {j : Nat} (hj : j < 3) (hw : mj_W G μ H) (hK : mj_K G s) : va_T .int (G.2.2.1.2 j).1 (G.2.2.1.2 j).2.1 (fun k => .int ((G.2.2.1.2 j).2.2 k)) (fun q => G.2.2.2.size ≤ q) s H :=
  (hK.2.2.1 j hj).kept fun a ha hA => hw.2.1 a ha
theorem mj_oldlen {a j : Nat} {rr : Option Nat} (hrr : rr = some a) (hj : j < 3) (ha : a = (G.2.2.1.2 j).1) (hdg : decode Y.2.1 pc = .ok (.arraylength, 1)) (kk : mj_J G Y Ex N S (pc + 1) lv (.int (nI (G.2.2.1.2 j).2.1) :: st) μ) : mj_J G Y Ex N S pc lv (va_rf rr :: st) μ := by
  subst hrr
  subst ha
  intro p e R s m args below meth c Q C H locs cells slots ls hw hL hb hc hs hl
  obtain ⟨cell, h1, h2, h3, h4, h5, -⟩ := mj_old hj hw C.2.2.2.2.2.1
  exact W.alen (n := nI (G.2.2.1.2 j).2.1) C.1 C.2.1 h1 h2 h5 rfl rfl hdg (kk p e R s m args below meth c Q C H locs cells slots ls hw hL hb hc hs hl)
theorem mj_oldld {a j : Nat} {rr : Option Nat} {i : Int32} (hrr : rr = some a) (hj : j < 3) (ha : a = (G.2.2.1.2 j).1) (hin : vp_in i (G.2.2.1.2 j).2.1) (hdg : decode Y.2.1 pc = .ok (.iaload, 1)) (kk : mj_J G Y Ex N S (pc + 1) lv (.int ((G.2.2.1.2 j).2.2 i.toNatClampNeg) :: st) μ) : mj_J G Y Ex N S pc lv (.int i :: va_rf rr :: st) μ := by
  subst hrr
  subst ha
  intro p e R s m args below meth c Q C H locs cells slots ls hw hL hb hc hs hl
  obtain ⟨cell, h1, h2, h3, h4, h5, h6, -⟩ := mj_old hj hw C.2.2.2.2.2.1
  have hlt : i.toNatClampNeg < (G.2.2.1.2 j).2.1 := Nat.not_le.mp fun q => hin (Or.inr q)
  exact W.iald C.1 C.2.1 h1 h2 h3 (fun q => by rcases q with q | q; exact hin (Or.inl q); omega) (h6 _ hlt) rfl rfl hdg (kk p e R s m args below meth c Q C H locs cells slots ls hw hL hb hc hs hl)
theorem mj_gets {j index : Nat} {nm : String} (hj : j < 2) (hnm : nm = mj_snm j) (hlink : Cond.fieldLink Y.1 index "TaskCores" nm "[I" ∈ md_Ts) (hdg : decode Y.2.1 pc = .ok (.getstatic index, 3)) (kk : mj_J G Y Ex N S (pc + 3) lv (va_rf (some (G.2.2.1.2 j).1) :: st) μ) : mj_J G Y Ex N S pc lv st μ := by
  subst hnm
  intro p e R s m args below meth c Q C H locs cells slots ls hw hL hb hc hs hl
  obtain ⟨cf, kf, fi, f, a, cell, h1, h2, h3, h4, h5, h6, h7, h8⟩ := (C.2.2.2.2.2.1.2.2.2.1 j hj).kept (H1 := H) fun a ha hA => hw.2.1 a ha
  exact W.gets C.1 C.2.1 C.2.2.2.1 (C.2.2.2.2.1 _ hlink) h1 h2 h3 h4 h5 (fun e => by rw [e] at h6; cases h6) h7 rfl hdg (kk p e R s m args below meth c Q C H locs cells slots ls hw hL hb hc hs hl)
theorem mj_callIN {y : MethodName} {Yc : mj_Y} {b index N' S' n : Nat} {As : List Value} {rr : Option Nat} {Ex' : Option Value → mj_MM → Prop} (hrr : rr = some b) (hM : mj_M G y Yc (va_rf (some b) :: As) N' S' μ Ex') (hln : (Y.1, index, y) ∈ md_nest) (hini : Cond.initialized y.cls ∈ md_Ts) (hcode : Cond.code y Yc.2.1 Yc.2.2.1 Yc.2.2.2.2.2.1 ∈ md_Ts)
    (hd : y.cls ≠ "java/lang/invoke/MethodHandle" ∧ y.cls ≠ "java/lang/invoke/VarHandle" ∧ (parseMethodDescriptor y.desc).map (fun d => d.parameters.length) = some n) (hfr : Yc.2.2.2.1 + 1 ≤ Y.2.2.2.1) (hlo : 8 + (Yc.2.2.1 + 11) + Yc.2.2.2.2.1 ≤ Y.2.2.2.2.1)
    (hret : Yc.2.2.2.2.2.1 = none) (hinit : y.name = "<init>") (hinst : Cond.instanceMethod y ∈ md_Ts) (hn : As.length = n) (hdg : decode Y.2.1 pc = .ok (.invokespecial index, 3)) (hst : (st.map fun v => v.category).sum ≤ 8) (h1 : mj_nc μ ≤ N ∧ mj_ns μ ≤ S → N' ≤ N ∧ S' ≤ S)
    (kk : ∀ (v : Option Value) (μ' : mj_MM), Ex' v μ' → mj_nc μ' = N' → mj_ns μ' = S' → mj_J G Y Ex N S (pc + 3) lv (v.toList ++ st) μ') : mj_J G Y Ex N S pc lv (As.reverse ++ va_rf rr :: st) μ := by
  subst hrr
  intro p e R s m args below meth c Q C H locs cells slots ls hw hL hb hc hs hl
  obtain ⟨hb0, hM⟩ := hM
  rw [hret] at hM hcode
  exact mj_after (a := (va_rf (some b) :: As).toArray) C hb0 (va_runIN (As := As) (rest := st) (Ts := md_Ts) (nL := Y.2.2.1) (host := "TaskCores") ⟨C.1, C.2.1, C.2.2.1, C.2.2.2.1, C.2.2.2.2.1⟩ hM ⟨va_cnB (Ts := md_Ts) n C.2.2.2.2.1 (fun w hw => by
    rcases List.mem_cons.mp hw with rfl | hw
    · exact ⟨hcode, good_of_word (mj_good _ hcode)⟩
    · exact ⟨hw, good_of_word (mj_good _ hw)⟩) rfl rfl rfl (C.2.2.2.2.2.1.2.2.2.2 _ hln) (C.2.2.2.2.1 _ hini) hd ⟨Nat.le_trans hfr C.2.2.2.2.2.2.1, Nat.le_trans hlo C.2.2.2.2.2.2.2.1⟩, hinit, C.2.2.2.2.1 _ hinst⟩ ⟨mj_blind, fun U hU hWm => ⟨rfl, by rw [hU]; exact hw, mj_K.warm hWm C.2.2.2.2.2.1⟩⟩ rfl hn hl.1 rfl (lv_room hst) hdg ⟨by omega, by omega⟩) hL hb hc hs hl (h1 hb) kk
end MJD
