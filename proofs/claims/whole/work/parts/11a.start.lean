/-! THE CLAIM OUT OF ONE WALK OF THE LAW'S BODY. Your part is whole_start (and what it stands on); all else here is the same for every law, but numbers. -/
def R_law : String := "TaskCoresLaw"
def lw_P (b : Addr) (xs : List Int32) (args : Array Value) (s : State) : Prop := args = #[.ref b] ∧ s.IntsAt b xs ∧ xs.length ≤ 3073 ∧ (Jvm.Cond.and given_1 narrow_1).before args s = true
def lw_Q (_ : Array Value) (s : State) (o : Outcome) (t : State) : Prop := o = .returned (some (.int 1)) ∧ Framed s o t [] 600000 7302250
def lw_Z (below : List Frame) (a : Array Value) (s : State) : State → Prop := fun t => ∃ o, t.status = .running ∧ Ended t below o ∧ lw_Q a s o t
/-- the law's own end, with 1 on the stack, nothing written that was there before, its room as the claim has it -/
theorem lw_ret {p : Program} {l : Launch} {e : Env} {s : State} {m : MethodId} {below : List Frame} {meth : Method} {c : Code} {b : Nat} (hx : p.tables.exec = Jvm.exec) (hb : c.code = code) (hr : meth.sig.returnType = ret) (hlocks : meth.locks = false) {pc : Nat} {H : Heap} {ls : Array Slot} (hdg : decode code pc = .ok (.ireturn, 1)) : W p l e room_1 s m #[Value.ref b] below meth c H [] 600000 7302250 (lw_Z below #[Value.ref b] s) (F0 m pc ls [.int 1]) := by
  intro T hT X
  obtain ⟨fs, hret, hrun, hended, hW, hframe⟩ := X.leave (v := some (.int 1)) (hlocks := hlocks) (fun h => by rw [hr] at h; cases h)
  have hmeth' : T.vm.method? m = some meth := X.method'
  refine ⟨T.setFrames fs, ?_, .returned (some (.int 1)), hrun, hended, rfl, ⟨_, rfl⟩, hW, hframe⟩
  jvm_step X.here [X.here.top, hx, hb, hdg, hmeth', hr, ret, narrow_b1]
  (try refine ⟨rfl, ?_⟩); (try refine ⟨rfl, ?_⟩)
  first | (intro acts; rw [hret _ acts rfl rfl rfl]) | rw [hret _ _ rfl rfl rfl]
  exact Steps.refl _
/-- what holds at the law's entry: the machine, the code, the tables' words (any of lw_tbl by 'hts w (by decide +kernel)'), the script of L ints xs at the cell b, what the Statement gives of the start (any of its parts by flat_of_before) -/
def lw_At (p : Program) (s : State) (m : MethodId) (meth : Method) (c : Code) (b L : Nat) (xs : Nat → Int32) : Prop :=
  p.tables.exec = Jvm.exec ∧ c.code = code ∧ meth.sig.returnType = ret ∧ c.maxLocals = 4 ∧ s.vm.findClass R_law = some m.cls ∧ (∀ w ∈ lw_tbl, w.before #[Value.ref b] s = true) ∧ va_X b L xs s s.heap ∧ b < s.heap.size ∧ meth.locks = false ∧ (Jvm.Cond.and given_1 narrow_1).before #[Value.ref b] s = true
theorem lw_known {s : State} {b : Nat} (htsd : ∀ w ∈ md_Ts, w.before #[Value.ref b] s = true) (z : ClassId) : ∀ ci : Nat, ∃ d : ClassId × (Nat → Nat), ∀ q : vw_C, md_cl[ci]? = some q → u_Kn s q.1 q.2.1 q.2.2 d.1 d.2 := by
  intro ci
  match ci with
  | 0 =>
    obtain ⟨cC, iS, h⟩ := u_known htsd kw_T (htsd _ tw_14)
    exact ⟨(cC, iS), fun q hq => by cases hq; exact h⟩
  | 1 =>
    obtain ⟨cC, iS, h⟩ := u_known htsd kw_C (htsd _ tw_73)
    exact ⟨(cC, iS), fun q hq => by cases hq; exact h⟩
  | 2 =>
    obtain ⟨cC, iS, h⟩ := u_known htsd kw_I (htsd _ tw_358)
    exact ⟨(cC, iS), fun q hq => by cases hq; exact h⟩
  | 3 =>
    obtain ⟨cC, iS, h⟩ := u_known htsd kw_U (htsd _ tw_28)
    exact ⟨(cC, iS), fun q hq => by cases hq; exact h⟩
  | 4 =>
    obtain ⟨cC, iS, h⟩ := u_known htsd kw_L (htsd _ tw_123)
    exact ⟨(cC, iS), fun q hq => by cases hq; exact h⟩
  | 5 =>
    obtain ⟨cC, iS, h⟩ := u_known htsd kw_G (htsd _ tw_50)
    exact ⟨(cC, iS), fun q hq => by cases hq; exact h⟩
  | 6 =>
    obtain ⟨cC, iS, h⟩ := u_known htsd kw_P (htsd _ tw_191)
    exact ⟨(cC, iS), fun q hq => by cases hq; exact h⟩
  | 7 =>
    obtain ⟨cC, iS, h⟩ := u_known htsd kw_R (htsd _ tw_106)
    exact ⟨(cC, iS), fun q hq => by cases hq; exact h⟩
  | 8 =>
    obtain ⟨cC, iS, h⟩ := u_known htsd kw_K (htsd _ tw_185)
    exact ⟨(cC, iS), fun q hq => by cases hq; exact h⟩
  | 9 =>
    obtain ⟨cC, iS, h⟩ := u_known htsd kw_E (htsd _ tw_331)
    exact ⟨(cC, iS), fun q hq => by cases hq; exact h⟩
  | 10 =>
    obtain ⟨cC, iS, h⟩ := u_known htsd kw_M (htsd _ tw_617)
    exact ⟨(cC, iS), fun q hq => by cases hq; exact h⟩
  | k + 11 => exact ⟨(z, fun _ => 0), fun q hq => by cases hq⟩
theorem lw_arr {s : State} {b : Nat} {ty : FieldType} (hr : mj_ref ty = false) (h : (Cond.arrayClass ty).before #[Value.ref b] s = true) : ∃ cA, mj_AT s cA ty := by
  obtain ⟨c, k, comp, h1, h2, h3⟩ := Cond.arrayClass_spec h
  exact ⟨c, fun n z => ⟨fun q h => (by cases h), k, h2, comp, h3⟩, h1, fun z => by rw [hr] at z; cases z⟩
theorem lw_arrs {s : State} {b : Nat} (hts : ∀ w ∈ lw_tbl, w.before #[Value.ref b] s = true) (htsd : ∀ w ∈ md_Ts, w.before #[Value.ref b] s = true) (z : ClassId) : ∀ t : Nat, ∃ cA : ClassId, ∀ ty : FieldType, md_at[t]? = some ty → mj_AT s cA ty := by
  intro t
  match t with
  | 0 =>
    obtain ⟨cA, h⟩ := lw_arr rfl (htsd _ tw_759)
    exact ⟨cA, fun ty q => by cases q; exact h⟩
  | 1 =>
    obtain ⟨cA, h⟩ := lw_arr rfl (htsd _ tw_557)
    exact ⟨cA, fun ty q => by cases q; exact h⟩
  | 2 =>
    obtain ⟨cA, h⟩ := lw_arr rfl (htsd _ tw_760)
    exact ⟨cA, fun ty q => by cases q; exact h⟩
  | 3 =>
    obtain ⟨cA, h⟩ := lw_arr rfl (htsd _ tw_761)
    exact ⟨cA, fun ty q => by cases q; exact h⟩
  | 4 =>
    obtain ⟨cA, h⟩ := mj_AT.ofOver (ty := .object "TaskCores$Task") rfl (hts (.arrayOver (.object "TaskCores$Task")) (by decide +kernel))
    exact ⟨cA, fun ty q => by cases q; exact h⟩
  | 5 =>
    obtain ⟨cA, h⟩ := mj_AT.ofOver (ty := .object "TaskCores$Core") rfl (hts (.arrayOver (.object "TaskCores$Core")) (by decide +kernel))
    exact ⟨cA, fun ty q => by cases q; exact h⟩
  | 6 =>
    obtain ⟨cA, h⟩ := mj_AT.ofOver (ty := .object "TaskCores$Resource") rfl (hts (.arrayOver (.object "TaskCores$Resource")) (by decide +kernel))
    exact ⟨cA, fun ty q => by cases q; exact h⟩
  | 7 =>
    obtain ⟨cA, h⟩ := mj_AT.ofOver (ty := .object "TaskCores$Lock") rfl (hts (.arrayOver (.object "TaskCores$Lock")) (by decide +kernel))
    exact ⟨cA, fun ty q => by cases q; exact h⟩
  | 8 =>
    obtain ⟨cA, h⟩ := mj_AT.ofOver (ty := .array .long) rfl (hts (.arrayOver (.array .long)) (by decide +kernel))
    exact ⟨cA, fun ty q => by cases q; exact h⟩
  | k + 9 => exact ⟨z, fun ty q => by cases q⟩
theorem lw_lo : ∀ j : Nat, j < 14 → (Cond.eq (.elem (.static "TaskCores" "LEAST_VALUE" "[I") (.int (Int32.ofNat j))) (.int (nI (tLo j)))) ∈ flatC (Jvm.Cond.and given_1 narrow_1) := by decide +kernel
theorem lw_hi : ∀ j : Nat, j < 14 → (Cond.eq (.elem (.static "TaskCores" "MOST_VALUE" "[I") (.int (Int32.ofNat j))) (.int (nI (tHi j)))) ∈ flatC (Jvm.Cond.and given_1 narrow_1) := by decide +kernel
/-- from the entry, for every script of at most 3073 ints, the law comes to its end with true -/
theorem whole_start {p : Program} {e : Env} {s : State} {m : MethodId} {below : List Frame} {meth : Method} {c : Code} (l : Launch) {b L : Nat} {xs : Nat → Int32} (hL : L ≤ 3073) (C0 : lw_At p s m meth c b L xs) : W p l e room_1 s m #[Value.ref b] below meth c s.heap [] 0 0 (lw_Z below #[Value.ref b] s) (entryFrame m ([Value.ref b] : List Value).toArray 4) := by
  obtain ⟨hx, hb, hr, hml, hown, hts, hX, hbl, hlk, hgv⟩ := C0
  have hs := flat_of_before _ hgv
  have htsd : ∀ w ∈ md_Ts, w.before #[Value.ref b] s = true := fun w hw => hts w (List.mem_filter.mp hw).1
  obtain ⟨d, hd⟩ := Classical.skolem.mp (lw_known htsd m.cls)
  obtain ⟨aC, haC⟩ := Classical.skolem.mp (lw_arrs hts htsd m.cls)
  have hA : ∀ a : Nat, a < s.heap.size → ¬ (s.heap.size ≤ a) := fun a h => Nat.not_le.mpr h
  obtain ⟨t0, e0, T0⟩ := va_Tof (tm := .static "TaskCores" "LEAST_VALUE" "[I") (ty := .int) (N := 14) (f := fun j => .int (nI (tLo j))) (A := fun q => s.heap.size ≤ q) (by decide) (hs _ (by decide +kernel)) (va_eqt (z := Int32.ofNat 14) (hs _ (by decide +kernel))) (fun j hj => va_eqt (hs _ (lw_lo j hj))) hA
  obtain ⟨t1, e1, T1⟩ := va_Tof (tm := .static "TaskCores" "MOST_VALUE" "[I") (ty := .int) (N := 14) (f := fun j => .int (nI (tHi j))) (A := fun q => s.heap.size ≤ q) (by decide) (hs _ (by decide +kernel)) (va_eqt (z := Int32.ofNat 14) (hs _ (by decide +kernel))) (fun j hj => va_eqt (hs _ (lw_hi j hj))) hA
  have ini : (Cond.initialized "TaskCores").before #[Value.ref b] s = true := htsd _ tw_1
  have Z0 : va_Z "TaskCores" "LEAST_VALUE" "[I" (.ref t0) (fun q => s.heap.size ≤ q) s s.heap := va_Zref (hts (.laysStatic "TaskCores" "LEAST_VALUE" "[I") (by decide +kernel)) ini e0 hA
  have Z1 : va_Z "TaskCores" "MOST_VALUE" "[I" (.ref t1) (fun q => s.heap.size ≤ q) s s.heap := va_Zref (hts (.laysStatic "TaskCores" "MOST_VALUE" "[I") (by decide +kernel)) ini e1 hA
  have T2 : va_T .int b L (fun k => .int (xs k)) (fun q => s.heap.size ≤ q) s s.heap := by
    obtain ⟨scr, h1, h2, h3, h4, h5⟩ := hX
    exact ⟨scr, h1, h2, h3, Nat.le_of_eq h4.symm, by rw [h4], h5, hA b hbl⟩
  have hN : ∀ q ∈ md_nest, va_Nw (.methodLinkNest q.1 q.2.1 q.2.2 "TaskCores") s := by
    have : ∀ q ∈ md_nest, Cond.methodLinkNest q.1 q.2.1 q.2.2 "TaskCores" ∈ lw_tbl := by decide +kernel
    exact fun q hq => va_Nw.of rfl (hts _ (this q hq))
  let o : Nat → Nat × Nat × (Nat → Int32) := fun j => match j with
    | 0 => (t0, 14, fun i => nI (tLo i))
    | 1 => (t1, 14, fun i => nI (tHi i))
    | _ => (b, L, xs)
  let G : mj_G := (l, (fun ci => (d ci).1, fun ci => (d ci).2), (aC, o), s.heap)
  have hSK : mj_SK o s.heap s := by
    refine ⟨fun j hj => ?_, fun j hj => ?_, hN⟩
    · match j, hj with
      | 0, _ => exact T0
      | 1, _ => exact T1
      | 2, _ => exact T2
    · match j, hj with
      | 0, _ => exact Z0
      | 1, _ => exact Z1
  have hK : mj_K G s := ⟨⟨fun ci q hq => hd ci q hq, fun k q hk => by cases hk⟩, haC, hSK⟩
  have hG : gS G := ⟨rfl, rfl, fun i _ => rfl, fun i _ => rfl⟩
  have hW : mj_W G mu0 s.heap := ⟨Nat.le_refl _, fun q _ => rfl, fun a h => absurd rfl h, fun a ci _ h => absurd h (Nat.succ_ne_zero ci).symm, fun a t h => absurd (show (0 : Nat) = 1000 + t from h) (by omega)⟩
  rw [lg_entry_eq]
  refine lw_law (G := G) hG hL p e room_1 s m #[Value.ref b] below meth c _ ⟨hx, hb, hml, hown, htsd, hK, by decide, by decide, fun h => (by cases h), ?_⟩ s.heap [] 0 0 _ hW (fun q h => (by cases h)) ⟨Nat.zero_le _, Nat.zero_le _⟩ (by decide) (by decide) (lv_entry [Value.ref b] (n := 4) (Nat.le_of_ble_eq_true rfl))
  intro H locs cells slots pc ls v μ hw hl hc hsl hE hret
  subst hE
  rcases hret with ⟨h0, -⟩ | ⟨x, ty, h0, h1, h2, h3⟩ | ⟨x, h0, -⟩ | ⟨r, ty, h0, -⟩
  · cases h0
  · exact va_forget hl (W.widen (k := 600000) (n := 7302250) hc hsl (lw_ret hx hb hr hlk h3))
  · cases h0
  · cases r <;> cases h0
