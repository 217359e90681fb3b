theorem mj_m1LT {x h : Nat} (hx : x < 2 ^ 31) (hh : h < 2 ^ 31) : (nI x - 1 < nI h) = (x < h + 1) := by
  apply propext
  cases x with
  | zero =>
    have : nI 0 - 1 = -1 := by decide
    rw [this]
    refine ⟨fun _ => by omega, fun _ => ?_⟩
    rw [Int32.lt_iff_toInt_lt, nI_toInt (by omega)]
    have : (-1 : Int32).toInt = -1 := by decide
    omega
  | succ x =>
    rw [nI_pred, nI_ltI (by omega) (by omega)]
    omega
theorem mj_m1EQ {x h : Nat} (hx : x < 2 ^ 31) (hh : h < 2 ^ 31) : (nI h = nI x - 1) = (x = h + 1) := by
  apply propext
  cases x with
  | zero =>
    have : nI 0 - 1 = -1 := by decide
    rw [this]
    refine ⟨fun e => ?_, fun e => by omega⟩
    have e2 := congrArg Int32.toInt e
    rw [nI_toInt (by omega)] at e2
    have : (-1 : Int32).toInt = -1 := by decide
    omega
  | succ x =>
    rw [nI_pred, nI_eq (by omega) (by omega)]
    omega
def sp_upd (σ : ss_S) (was best : Nat) : ss_S :=
  if best = 0 then (if was = 0 then σ else ss_u (ss_u σ 19 was 0) 11 was 1) else ss_u (if was = 0 then σ else ss_u (ss_u σ 19 was 0) 11 was 1) 11 best 2
def sp_chosen (σ : ss_S) (c : Nat) : Nat := if sp_running σ c ≠ 0 ∧ σ 6 (sp_running σ c) = 0 ∧ σ 19 (sp_running σ c) = 0 then sp_running σ c else (sp_best σ c (sp_running σ c) (σ 1 0)).1
def sp_choose (σ : ss_S) (c : Nat) : ss_S := if sp_running σ c ≠ 0 ∧ σ 6 (sp_running σ c) = 0 ∧ σ 19 (sp_running σ c) = 0 then σ else sp_upd σ (sp_running σ c) (sp_best σ c (sp_running σ c) (σ 1 0)).1
theorem sp_run_le (σ : ss_S) (c : Nat) : ∀ n, sp_run σ c n ≤ n := by
  intro n
  induction n with
  | zero => exact Nat.le_refl 0
  | succ n ih =>
    unfold sp_run
    split
    · exact Nat.le_refl _
    · omega
theorem sp_best_le (σ : ss_S) (c was : Nat) : ∀ n, (sp_best σ c was n).1 ≤ n ∨ (sp_best σ c was n).1 = was := by
  intro n
  induction n with
  | zero => exact Or.inr rfl
  | succ n ih =>
    unfold sp_best
    split
    · exact Or.inl (Nat.le_refl _)
    · omega
theorem sp_best_lt {σ : ss_S} {b : Nat} (h : sp_Bd b σ) (c was : Nat) : ∀ n, (sp_best σ c was n).2 ≤ b := by
  have hh : ∀ t r, sp_ht σ t r < b := by
    intro t r
    induction r with
    | zero => exact h 2 t
    | succ r ih =>
      unfold sp_ht
      split
      · exact h _ _
      · exact ih
  intro n
  induction n with
  | zero =>
    unfold sp_best
    dsimp only
    split
    · exact hh was 32
    · exact Nat.zero_le _
  | succ n ih =>
    unfold sp_best
    split
    · exact hh (n + 1) 32
    · exact ih
section RH
variable {G : mj_G} {m : Nat} {A : Nat → Nat} {σ : ss_S} {μ μ0 : mj_MM} {b : Nat} {Ex : Option Value → mj_MM → Prop} {N S : Nat}
abbrev rf_EI (m : Nat) (A : Nat → Nat) (σ' : ss_S) (x : Int32) (μ0 : mj_MM) (Ex : Option Value → mj_MM → Prop) : Prop := ∀ μ', rf_Q m A σ' μ0 μ' → mj_nc μ' = mj_nc μ0 → mj_ns μ' = mj_ns μ0 → Ex (some (.int x)) μ'
theorem rl_choose (h : sp_Bd b σ) (hb2 : b + 2 ≤ 2 ^ 31) (hT : σ 1 0 ≤ 100) (c was : Nat) (hc : c < 100) (hw : was ≤ 100) (he : rf_EI m A (sp_upd σ was (sp_best σ c was (σ 1 0)).1) (nI (sp_best σ c was (σ 1 0)).1) μ0 Ex) :
    ∀ d n μ, n + d = σ 1 0 → rf_Q m A σ μ0 μ → mj_nc μ = mj_nc μ0 → mj_ns μ = mj_ns μ0 →
      mj_J G mY_M_choose Ex N S 50 [(0, va_rf (some m)), (1, .int (nI c)), (2, .int (nI was)), (3, .int (nI (sp_best σ c was n).1)), (4, .int (nI (sp_best σ c was n).2 - 1)), (5, .int (nI (n + 1)))] [] μ := by
  have hB := h.B (by omega)
  intro d
  induction d with
  | zero =>
    intro n μ hn hQ e1 e2
    have : n = σ 1 0 := by omega
    subst this
    have hf := sp_best_le σ c was (σ 1 0)
    refine bk_M_choose_50 ?_
    generalize (sp_best σ c was (σ 1 0)).1 = f at he hf ⊢
    have hf1 : f < 101 := by omega
    have hw1 : was < 101 := by omega
    simp (disch := first | decide | assumption | omega) only [hQ.t, hQ.r, hQ.a0, hQ.a1, hQ.a2, hQ.a3, hQ.si, hQ.sl, hQ.l15, hQ.i1, hQ.v1, hQ.l1, hQ.i5, hQ.v5, hQ.l5, hQ.i3, hQ.v3, hQ.l3, hQ.i2, hQ.v2, hQ.l2, hQ.i4, hQ.v4, hQ.l4, Option.some.injEq, exists_eq_left', nI_clamp, nI_1, mj_vin, true_and, eq_self, mj_lt, mj_le0]
    unfold sp_upd at he
    refine ⟨fun _ => ⟨fun q => ⟨fun q2 => ?_, fun q2 => ?_⟩, fun q => ⟨fun q2 => ?_, fun q2 => ?_⟩⟩, fun q => absurd (by omega) q⟩
    · rw [if_pos q2, if_pos q] at he
      exact he _ hQ e1 e2
    · rw [if_neg q2, if_pos q] at he
      exact he _ (hQ.pI 11 f 2 (by decide) hf1) e1 e2
    · rw [if_pos q2, if_neg q] at he
      exact he _ ((hQ.pI 19 was 0 (by decide) hw1).pI 11 was 1 (by decide) hw1) e1 e2
    · rw [if_neg q2, if_neg q] at he
      exact he _ (((hQ.pI 19 was 0 (by decide) hw1).pI 11 was 1 (by decide) hw1).pI 11 f 2 (by decide) hf1) e1 e2
  | succ d ih =>
    intro n μ hn hQ e1 e2
    have b1 := hB 3 (n + 1)
    have b2 := hB 11 (n + 1)
    have hf := sp_best_le σ c was n
    have hg := sp_best_lt h c was n
    have n1 := fun μ' => ih (n + 1) μ' (by omega)
    unfold sp_best at n1
    refine bk_M_choose_50 ?_
    generalize sp_best σ c was n = f at hf hg n1 ⊢
    obtain ⟨f1, f2⟩ := f
    dsimp only at hf hg n1 ⊢
    have hf1 : f1 < 101 := by omega
    simp (disch := first | decide | assumption | omega) only [hQ.t, hQ.r, hQ.a0, hQ.a1, hQ.a2, hQ.a3, hQ.si, hQ.sl, hQ.l15, hQ.i1, hQ.v1, hQ.l1, hQ.i5, hQ.v5, hQ.l5, hQ.i3, hQ.v3, hQ.l3, hQ.i2, hQ.v2, hQ.l2, hQ.i4, hQ.v4, hQ.l4, Option.some.injEq, exists_eq_left', nI_clamp, nI_1, mj_vin, true_and, eq_self, mj_zz, mj_z1, mj_lt]
    refine ⟨fun q => absurd q (by omega), fun _ => ⟨fun q => ?_, fun q => ⟨fun q2 => ⟨_, rc_height hQ.1 hB (n + 1) (by omega), fun x μ2 hP r1 r2 => ?_⟩, fun q2 => ?_⟩⟩⟩
    · rw [if_neg (fun z => q z.1)] at n1
      exact n1 μ hQ e1 e2
    · obtain ⟨hx, hP⟩ := hP
      subst hx
      have hP := hQ.trans hP
      have r1 := r1.trans e1
      have r2 := r2.trans e2
      have b3 : sp_height σ (n + 1) < 2 ^ 31 := sp_ht_lt hB _ _
      have b4 := hB 12 (n + 1)
      have b5 := hB 12 f1
      generalize sp_height σ (n + 1) = hh at b3 n1 ⊢
      refine bk_M_choose_90 ?_
      simp (disch := first | decide | assumption | omega) only [hP.t, hP.r, hP.a0, hP.a1, hP.a2, hP.a3, hP.si, hP.sl, hP.l15, hP.i1, hP.v1, hP.l1, hP.i5, hP.v5, hP.l5, hP.i3, hP.v3, hP.l3, hP.i2, hP.v2, hP.l2, hP.i4, hP.v4, hP.l4, Option.some.injEq, exists_eq_left', nI_clamp, nI_1, mj_vin, true_and, eq_self, mj_zz, mj_m1LT, mj_m1EQ, mj_LE]
      have kk : nI (hh + 1) - 1 = nI hh := nI_pred hh
      refine ⟨fun q3 => ?_, fun q3 => ⟨fun q4 => ?_, fun q4 => ⟨fun q5 => ?_, fun q5 => ⟨fun q6 => ?_, fun q6 => ?_⟩⟩⟩⟩
      · rw [if_pos ⟨q, q2, Or.inl q3⟩] at n1
        dsimp only at n1
        rw [kk] at n1
        exact n1 μ2 hP r1 r2
      · rw [if_neg (fun z => by omega)] at n1
        exact n1 μ2 hP r1 r2
      · rw [if_neg (fun z => by omega)] at n1
        exact n1 μ2 hP r1 r2
      · rw [if_neg (fun z => by omega)] at n1
        exact n1 μ2 hP r1 r2
      · rw [if_pos ⟨q, q2, Or.inr ⟨q4, q5, by omega⟩⟩] at n1
        dsimp only at n1
        rw [kk] at n1
        exact n1 μ2 hP r1 r2
    · rw [if_neg (fun z => q2 z.2.1)] at n1
      exact n1 μ hQ e1 e2
theorem rc_choose (hR : rf_R m A σ μ) (h : sp_Bd b σ) (hb2 : b + 2 ≤ 2 ^ 31) (hT : σ 1 0 ≤ 100) (c : Nat) (hc : c < 100) : rc_I G my_M_choose mY_M_choose m A μ [.int (nI c)] (nI (sp_chosen σ c)) (sp_choose σ c) := by
  have hQ := hR.self
  have hB := h.B (by omega)
  refine mj_of (by decide) rfl (by decide) (Nat.le_of_ble_eq_true rfl) rfl ⟨Nat.le_refl _, Nat.le_refl _⟩ ?_
  refine bk_M_choose_0 ⟨hQ.t, _, rc_runningOf hR hB hT c hc, fun x μ1 hP e1 e2 => ?_⟩
  obtain ⟨hx, hP⟩ := hP
  subst hx
  have hw := sp_run_le σ c (σ 1 0)
  have hw2 : sp_running σ c < 101 := by unfold sp_running; omega
  have b1 := hB 6 (sp_running σ c)
  have b2 := hB 19 (sp_running σ c)
  have go : ¬ (sp_running σ c ≠ 0 ∧ σ 6 (sp_running σ c) = 0 ∧ σ 19 (sp_running σ c) = 0) → ∀ μ', rf_Q m A σ μ μ' → mj_nc μ' = mj_nc μ → mj_ns μ' = mj_ns μ → mj_J G mY_M_choose (fun v μ' => mj_XI (fun x μ' => x = nI (sp_chosen σ c) ∧ rf_Q m A (sp_choose σ c) μ μ') v μ' ∧ mj_nc μ' = mj_nc μ ∧ mj_ns μ' = mj_ns μ) (mj_nc μ) (mj_ns μ) 50 [(0, va_rf (some m)), (1, .int (nI c)), (2, .int (nI (sp_running σ c))), (3, .int (nI (sp_best σ c (sp_running σ c) 0).1)), (4, .int (nI (sp_best σ c (sp_running σ c) 0).2 - 1)), (5, .int (nI (0 + 1)))] [] μ' := by
    intro hn μ' hP q1 q2
    refine rl_choose (μ0 := μ) h hb2 hT c (sp_running σ c) hc (by omega) (fun μ2 hP2 r1 r2 => ⟨⟨_, rfl, ?_, ?_⟩, r1, r2⟩) (σ 1 0) 0 μ' (by omega) hP q1 q2
    · unfold sp_chosen
      rw [if_neg hn]
    · unfold sp_choose
      rw [if_neg hn]
      exact hP2
  have hgo : ∀ μ', rf_Q m A σ μ μ' → mj_nc μ' = mj_nc μ → mj_ns μ' = mj_ns μ → sp_running σ c ≠ 0 → ¬ (sp_running σ c ≠ 0 ∧ σ 6 (sp_running σ c) = 0 ∧ σ 19 (sp_running σ c) = 0) → ∃ P : Int32 → mj_MM → Prop, mj_M G my_M_height mY_M_height [va_rf (some m), .int (nI (sp_running σ c))] (mj_nc μ') (mj_ns μ') μ' (mj_XI P) ∧ ∀ (x : Int32) (μ2 : mj_MM), P x μ2 → mj_nc μ2 = mj_nc μ' → mj_ns μ2 = mj_ns μ' → mj_J G mY_M_choose (fun v μ' => mj_XI (fun x μ' => x = nI (sp_chosen σ c) ∧ rf_Q m A (sp_choose σ c) μ μ') v μ' ∧ mj_nc μ' = mj_nc μ ∧ mj_ns μ' = mj_ns μ) (mj_nc μ) (mj_ns μ) 41 [(0, va_rf (some m)), (1, .int (nI c)), (2, .int (nI (sp_running σ c))), (3, .int (nI (sp_running σ c)))] [.int x] μ2 := by
    intro μ' hP q1 q2 hne hn
    refine ⟨_, rc_height hP.1 hB (sp_running σ c) hw2, fun x μ2 hP2 r1 r2 => ?_⟩
    obtain ⟨hx, hP2⟩ := hP2
    subst hx
    refine bk_M_choose_41 ?_
    have g := go hn μ2 (hP.trans hP2) (r1.trans q1) (r2.trans q2)
    unfold sp_best at g
    dsimp only at g
    rw [if_pos (by omega), nI_pred] at g
    exact g
  refine bk_M_choose_5 ?_
  simp (disch := first | decide | assumption | omega) only [hP.t, hP.r, hP.a0, hP.a1, hP.a2, hP.a3, hP.si, hP.sl, hP.l15, hP.i1, hP.v1, hP.l1, hP.i5, hP.v5, hP.l5, hP.i3, hP.v3, hP.l3, hP.i2, hP.v2, hP.l2, hP.i4, hP.v4, hP.l4, Option.some.injEq, exists_eq_left', nI_clamp, nI_1, mj_vin, true_and, eq_self, mj_le0, mj_z0]
  refine ⟨fun q => ⟨fun _ => ?_, fun q2 => absurd q q2⟩, fun q => ⟨fun q2 => ⟨fun q3 => absurd q3 q, fun _ => hgo μ1 hP e1 e2 q (fun z => q2 z.2.1)⟩, fun q2 => ⟨fun q3 => ⟨fun q4 => absurd q4 q, fun _ => hgo μ1 hP e1 e2 q (fun z => q3 z.2.2)⟩, fun q3 => ⟨⟨_, rfl, ?_, ?_⟩, e1, e2⟩⟩⟩⟩
  · have g := go (fun z => z.1 q) μ1 hP e1 e2
    unfold sp_best at g
    dsimp only at g
    rw [if_neg (by omega)] at g
    exact g
  · unfold sp_chosen
    rw [if_pos ⟨q, q2, q3⟩]
  · unfold sp_choose
    rw [if_pos ⟨q, q2, q3⟩]
    exact hP
end RH
