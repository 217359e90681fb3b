theorem nI_or (a b : Nat) : nI a ||| nI b = nI (a ||| b) := by
  apply Int32.toBitVec_inj.1
  show BitVec.ofNat 32 a ||| BitVec.ofNat 32 b = BitVec.ofNat 32 (a ||| b)
  apply BitVec.eq_of_getLsbD_eq
  intro i hi
  simp [hi]
theorem nI_and (a b : Nat) : nI a &&& nI b = nI (a &&& b) := by
  apply Int32.toBitVec_inj.1
  show BitVec.ofNat 32 a &&& BitVec.ofNat 32 b = BitVec.ofNat 32 (a &&& b)
  apply BitVec.eq_of_getLsbD_eq
  intro i hi
  simp [hi]
theorem mj_m1lt {x h : Nat} (hx : x < 2 ^ 31) (hh : h < 2 ^ 30) : (nI x - 1 < nI h) = (x < h + 1) := by
  apply propext
  cases x with
  | zero =>
    have : nI 0 - 1 = -1 := by decide
    rw [this]
    refine ⟨fun _ => by omega, fun _ => ?_⟩
    rw [Int32.lt_iff_toInt_lt, nI_toInt (by omega)]
    have : (-1 : Int32).toInt = -1 := by decide
    omega
  | succ x =>
    rw [nI_pred, nI_ltI (by omega) (by omega)]
    omega
theorem mj_m1eq {x h : Nat} (hx : x < 2 ^ 31) (hh : h < 2 ^ 30) : (nI h = nI x - 1) = (x = h + 1) := by
  apply propext
  cases x with
  | zero =>
    have : nI 0 - 1 = -1 := by decide
    rw [this]
    refine ⟨fun e => ?_, fun e => by omega⟩
    have e2 := congrArg Int32.toInt e
    rw [nI_toInt (by omega)] at e2
    have : (-1 : Int32).toInt = -1 := by decide
    omega
  | succ x =>
    rw [nI_pred, nI_eq (by omega) (by omega)]
    omega
theorem mj_m1neg {x : Nat} (hx : x < 2 ^ 31) : (nI x - 1 < 0) = (x = 0) := by
  have h := mj_m1lt (x := x) (h := 0) hx (by decide)
  rw [show (0 : Int32) = nI 0 from rfl, h]
  apply propext
  omega
section RC
variable {G : mj_G} {m : Nat} {A : Nat → Nat} {σ : ss_S} {μ : mj_MM}
theorem rc_set (hR : rf_R m A σ μ) (hB : sp_B σ) (t e : Nat) (ht : t < 101) :
    rc_I G my_M_set mY_M_set m A μ [.int (nI t), .int (nI e)] (if σ 5 t ≠ 0 ∧ σ 11 t ≠ 0 then 1 else 0) (if σ 5 t ≠ 0 ∧ σ 11 t ≠ 0 then sp_set σ t e else σ) := by
  have hQ := hR.self
  refine mj_of (by decide) rfl (by decide) (Nat.le_of_ble_eq_true rfl) rfl ⟨Nat.le_refl _, Nat.le_refl _⟩ ?_
  refine bk_M_set_0 ?_
  have b1 := hB 11 t
  have b2 := hB 5 t
  have b3 : (σ 17 t ||| e) &&& σ 18 t < 2 ^ 31 := Nat.lt_of_le_of_lt Nat.and_le_right (hB 18 t)
  have hQ2 := hQ.pI 17 t (σ 17 t ||| e) (by decide) ht
  simp (disch := first | decide | assumption | omega) only [hQ.t, hQ.r, hQ.a0, hQ.a1, hQ.a2, hQ.a3, hQ.si, hQ.sl, hQ.l15, hQ.i1, hQ.v1, hQ.l1, hQ.i5, hQ.v5, hQ.l5, hQ.i3, hQ.v3, hQ.l3, hQ.i2, hQ.v2, hQ.l2, hQ.i4, hQ.v4, hQ.l4, Option.some.injEq, exists_eq_left', nI_clamp, nI_1, mj_vin, true_and, eq_self, mj_z0, nI_or]
  simp (disch := first | decide | assumption | omega) only [hQ2.t, hQ2.r, hQ2.a0, hQ2.a1, hQ2.a2, hQ2.a3, hQ2.si, hQ2.sl, hQ2.l15, hQ2.i1, hQ2.v1, hQ2.l1, hQ2.i5, hQ2.v5, hQ2.l5, hQ2.i3, hQ2.v3, hQ2.l3, hQ2.i2, hQ2.v2, hQ2.l2, hQ2.i4, hQ2.v4, hQ2.l4, Option.some.injEq, exists_eq_left', nI_clamp, nI_1, mj_vin, true_and, eq_self, ss_us, nI_and]
  rw [show ss_u σ 17 t (σ 17 t ||| e) 18 t = σ 18 t from rfl, show ss_u σ 17 t (σ 17 t ||| e) 11 t = σ 11 t from rfl]
  simp (disch := first | decide | assumption | omega) only [mj_z3, mj_z0]
  refine ⟨fun h => ?_, fun h => ⟨fun h2 => ⟨fun h3 => ?_, fun h3 => ⟨fun h4 => ?_, fun h4 => ?_⟩⟩, fun h2 => ?_⟩⟩
  · rw [if_neg (by omega), if_neg (by omega)]
    exact ⟨⟨0, rfl, rfl, hQ⟩, (by first | exact ⟨rfl, rfl⟩ | trivial)⟩
  · rw [if_pos ⟨h, h2⟩, if_pos ⟨h, h2⟩]
    refine bk_M_set_65 ⟨⟨1, rfl, rfl, ?_⟩, rfl, rfl⟩
    unfold sp_set
    rw [if_neg (fun q => h3 q.1)]
    exact hQ2
  · rw [if_pos ⟨h, h2⟩, if_pos ⟨h, h2⟩]
    refine bk_M_set_65 ⟨⟨1, rfl, rfl, ?_⟩, rfl, rfl⟩
    unfold sp_set
    rw [if_neg (fun q => q.2 h4)]
    exact hQ2
  · rw [if_pos ⟨h, h2⟩, if_pos ⟨h, h2⟩]
    refine ⟨_, rc_ready hQ2.1 t ht, fun μ' hP e1 e2 => bk_M_set_65 ⟨⟨1, rfl, rfl, ?_⟩, e1, e2⟩⟩
    unfold sp_set
    rw [if_pos ⟨h3, h4⟩]
    exact hQ2.trans hP
  · rw [if_neg (by omega), if_neg (by omega)]
    exact ⟨⟨0, rfl, rfl, hQ⟩, (by first | exact ⟨rfl, rfl⟩ | trivial)⟩
theorem sp_ht_lt (hB : sp_B σ) (t : Nat) : ∀ r, sp_ht σ t r < 2 ^ 31 := by
  intro r
  induction r with
  | zero => exact hB 2 t
  | succ r ih =>
    unfold sp_ht
    split
    · exact hB _ _
    · exact ih
theorem rl_height (hR : rf_R m A σ μ) (hB : sp_B σ) (t : Nat) (ht : t < 101) {Ex : Option Value → mj_MM → Prop} {N S : Nat} (he : Ex (some (.int (nI (sp_height σ t)))) μ) :
    ∀ d r, r + d = 32 → mj_J G mY_M_height Ex N S 9 [(0, va_rf (some m)), (1, .int (nI t)), (2, .int (nI (sp_ht σ t r))), (3, .int (nI (r + 1)))] [] μ := by
  have hQ := hR.self
  intro d
  induction d with
  | zero =>
    intro r hr
    have : r = 32 := by omega
    subst this
    exact bk_M_height_9 ⟨fun _ => he, fun h => absurd (by decide) h⟩
  | succ d ih =>
    intro r hr
    have h1 : ¬ (32 : Int32) < nI (r + 1) := fun q => by
      have := (nI_ltI (a := 32) (by decide) (by omega)).mp q
      omega
    have b1 := hB 22 (r + 1)
    have b2 := hB 24 (r + 1)
    have b3 := sp_ht_lt hB t r
    have n1 := ih (r + 1) (by omega)
    refine bk_M_height_9 ⟨fun h => absurd h h1, fun _ => ?_⟩
    simp (disch := first | decide | assumption | omega) only [hQ.t, hQ.r, hQ.a0, hQ.a1, hQ.a2, hQ.a3, hQ.si, hQ.sl, hQ.l15, hQ.i1, hQ.v1, hQ.l1, hQ.i5, hQ.v5, hQ.l5, hQ.i3, hQ.v3, hQ.l3, hQ.i2, hQ.v2, hQ.l2, hQ.i4, hQ.v4, hQ.l4, Option.some.injEq, exists_eq_left', nI_clamp, nI_1, mj_vin, true_and, eq_self, mj_zz, mj_le]
    unfold sp_ht at n1
    refine ⟨fun h => ?_, fun h => ⟨fun h2 => ?_, fun h2 => ?_⟩⟩
    · rw [if_neg (fun q => h q.1)] at n1
      exact n1
    · rw [if_neg (fun q => by omega)] at n1
      exact n1
    · rw [if_pos ⟨h, by omega⟩] at n1
      exact n1
theorem rc_height (hR : rf_R m A σ μ) (hB : sp_B σ) (t : Nat) (ht : t < 101) : rc_I G my_M_height mY_M_height m A μ [.int (nI t)] (nI (sp_height σ t)) σ := by
  have hQ := hR.self
  refine mj_of (by decide) rfl (by decide) (Nat.le_of_ble_eq_true rfl) rfl ⟨Nat.le_refl _, Nat.le_refl _⟩ ?_
  refine bk_M_height_0 ?_
  simp (disch := first | decide | assumption | omega) only [hQ.t, hQ.r, hQ.a0, hQ.a1, hQ.a2, hQ.a3, hQ.si, hQ.sl, hQ.l15, hQ.i1, hQ.v1, hQ.l1, hQ.i5, hQ.v5, hQ.l5, hQ.i3, hQ.v3, hQ.l3, hQ.i2, hQ.v2, hQ.l2, hQ.i4, hQ.v4, hQ.l4, Option.some.injEq, exists_eq_left', nI_clamp, nI_1, mj_vin, true_and, eq_self]
  exact rl_height hR hB t ht ⟨⟨_, rfl, rfl, hQ⟩, rfl, rfl⟩ 32 0 rfl
theorem rl_runningOf (hR : rf_R m A σ μ) (hB : sp_B σ) (hT : σ 1 0 ≤ 100) (c : Nat) (hc : c < 100) {Ex : Option Value → mj_MM → Prop} {N S : Nat} (he : Ex (some (.int (nI (sp_running σ c)))) μ) :
    ∀ d n, n + d = σ 1 0 → mj_J G mY_M_runningOf Ex N S 4 [(0, va_rf (some m)), (1, .int (nI c)), (2, .int (nI (sp_run σ c n))), (3, .int (nI (n + 1)))] [] μ := by
  have hQ := hR.self
  intro d
  induction d with
  | zero =>
    intro n hn
    have : n = σ 1 0 := by omega
    subst this
    refine bk_M_runningOf_4 ?_
    simp (disch := first | decide | assumption | omega) only [hQ.t, hQ.r, hQ.a0, hQ.a1, hQ.a2, hQ.a3, hQ.si, hQ.sl, hQ.l15, hQ.i1, hQ.v1, hQ.l1, hQ.i5, hQ.v5, hQ.l5, hQ.i3, hQ.v3, hQ.l3, hQ.i2, hQ.v2, hQ.l2, hQ.i4, hQ.v4, hQ.l4, Option.some.injEq, exists_eq_left', nI_clamp, nI_1, mj_vin, true_and, eq_self, mj_lt]
    exact ⟨fun _ => he, fun h => absurd (by omega) h⟩
  | succ d ih =>
    intro n hn
    have b1 := hB 3 (n + 1)
    have b2 := hB 11 (n + 1)
    have n1 := ih (n + 1) (by omega)
    refine bk_M_runningOf_4 ?_
    simp (disch := first | decide | assumption | omega) only [hQ.t, hQ.r, hQ.a0, hQ.a1, hQ.a2, hQ.a3, hQ.si, hQ.sl, hQ.l15, hQ.i1, hQ.v1, hQ.l1, hQ.i5, hQ.v5, hQ.l5, hQ.i3, hQ.v3, hQ.l3, hQ.i2, hQ.v2, hQ.l2, hQ.i4, hQ.v4, hQ.l4, Option.some.injEq, exists_eq_left', nI_clamp, nI_1, mj_vin, true_and, eq_self, mj_zz, mj_z2, mj_lt]
    refine ⟨fun h => absurd h (by omega), fun _ => ?_⟩
    unfold sp_run at n1
    refine ⟨fun h => ?_, fun h => ⟨fun h2 => ?_, fun h2 => ?_⟩⟩
    · rw [if_neg (fun q => h q.1)] at n1
      exact n1
    · rw [if_neg (fun q => h2 q.2)] at n1
      exact n1
    · rw [if_pos ⟨h, h2⟩] at n1
      exact n1
theorem rc_runningOf (hR : rf_R m A σ μ) (hB : sp_B σ) (hT : σ 1 0 ≤ 100) (c : Nat) (hc : c < 100) : rc_I G my_M_runningOf mY_M_runningOf m A μ [.int (nI c)] (nI (sp_running σ c)) σ := by
  have hQ := hR.self
  refine mj_of (by decide) rfl (by decide) (Nat.le_of_ble_eq_true rfl) rfl ⟨Nat.le_refl _, Nat.le_refl _⟩ ?_
  refine bk_M_runningOf_0 ?_
  exact rl_runningOf hR hB hT c hc ⟨⟨_, rfl, rfl, hQ⟩, rfl, rfl⟩ (σ 1 0) 0 (by omega)
end RC
