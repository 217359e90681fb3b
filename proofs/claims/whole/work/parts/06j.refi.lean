def sp_cz (σ : ss_S) : Nat → ss_S
  | 0 => σ
  | n + 1 => ss_u (sp_cz σ n) 24 (n + 1) 0
def sp_cl (σ : ss_S) : Nat → ss_S
  | 0 => sp_cz σ 32
  | k + 1 => if σ 9 k = 6 ∧ sp_cl σ k 24 (σ 10 k) < σ 2 (σ 8 k) then ss_u (sp_cl σ k) 24 (σ 10 k) (σ 2 (σ 8 k)) else sp_cl σ k
def sp_ceil (σ : ss_S) : ss_S := sp_cl σ (σ 7 0)
theorem sp_cz_f (σ : ss_S) (g j : Nat) (h : g ≠ 24) : ∀ n, sp_cz σ n g j = σ g j := by
  intro n
  induction n with
  | zero => rfl
  | succ n ih =>
    unfold sp_cz
    rw [ss_uf _ _ _ _ h, ih]
theorem sp_cl_f (σ : ss_S) (g j : Nat) (h : g ≠ 24) : ∀ n, sp_cl σ n g j = σ g j := by
  intro n
  induction n with
  | zero => exact sp_cz_f σ g j h 32
  | succ n ih =>
    unfold sp_cl
    split
    · rw [ss_uf _ _ _ _ h, ih]
    · exact ih
theorem sp_Bd.cz {σ : ss_S} {b : Nat} (h : sp_Bd b σ) (hb : 1 ≤ b) : ∀ n, sp_Bd b (sp_cz σ n) := by
  intro n
  induction n with
  | zero => exact h
  | succ n ih => exact ih.u 24 _ (by omega)
theorem sp_Bd.cl {σ : ss_S} {b : Nat} (h : sp_Bd b σ) (hb : 1 ≤ b) : ∀ n, sp_Bd b (sp_cl σ n) := by
  intro n
  induction n with
  | zero => exact h.cz hb 32
  | succ n ih =>
    unfold sp_cl
    split
    · exact ih.u 24 _ (h _ _)
    · exact ih
/-- what is told of tasks, parts, activations and interrupts is within its limits -/
def sp_V (σ : ss_S) : Prop :=
  σ 1 0 ≤ 100 ∧ (1 ≤ σ 0 0 ∧ σ 0 0 ≤ 8) ∧ σ 7 0 ≤ 500 ∧ σ 32 0 ≤ 500 ∧ σ 35 0 ≤ 500 ∧
  (∀ k, k < σ 7 0 → σ 8 k < 101 ∧ σ 9 k < 14 ∧ (σ 9 k = 6 → σ 10 k < 33) ∧ (σ 9 k = 7 → σ 10 k < 33) ∧ (σ 9 k = 8 → σ 10 k < 17) ∧ (σ 9 k = 9 → σ 10 k < 17) ∧ σ 10 k < 2 ^ 23) ∧
  (∀ k, k < σ 32 0 → σ 33 k < 101) ∧ (∀ k, k < σ 35 0 → σ 36 k < 16) ∧ (∀ i, σ 17 i < 65536) ∧ σ 43 0 ≤ 50000
def sp_step1 (σ : ss_S) (t : Nat) : ss_S × Nat :=
  if t = 0 ∨ σ 16 t ≠ 0 ∨ σ 26 t ≠ 0 then (σ, 0)
  else match sp_next σ t with
    | none => (sp_ends σ t, 1)
    | some k => if σ 9 k = 0 then (σ, 0) else (sp_act σ t (σ 9 k) (σ 10 k), 1)
def sp_step (σ : ss_S) (c : Nat) : ss_S × Nat := if c = 0 ∧ sp_atHand σ ≠ 0 then (σ, 0) else sp_step1 (sp_choose σ c) (sp_chosen σ c)
def sp_passA (σ : ss_S) (t : Nat) : ss_S := if σ 15 t - 1 ≤ 1 then ss_u (ss_u (ss_u σ 15 t (σ 15 t - 1)) 15 t 0) 14 t (σ 14 t + 1) else ss_u σ 15 t (σ 15 t - 1)
def sp_passB (σ : ss_S) (t : Nat) : ss_S :=
  if σ 26 t ≠ 0 then σ else if σ 16 t ≠ 0 then ss_u (ss_u σ 16 t 0) 15 t 0
  else if σ 15 t ≠ 0 then sp_passA σ t
  else match sp_next σ t with
    | none => σ
    | some k => sp_passA (ss_u σ 15 t (σ 10 k + 1)) t
def sp_pass (σ : ss_S) (t : Nat) : ss_S := sp_passB (ss_u σ 20 t (σ 20 t + 1)) t
theorem sp_nth_lt (σ : ss_S) (t : Nat) : ∀ d k n q, sp_nth σ t d k n = some q → k ≤ q ∧ q < k + d ∧ σ 8 q = t := by
  intro d
  induction d with
  | zero =>
    intro k n q h
    cases h
  | succ d ih =>
    intro k n q h
    unfold sp_nth at h
    split at h
    · rename_i h8
      split at h
      · cases h
        exact ⟨Nat.le_refl _, by omega, h8⟩
      · have := ih _ _ _ h
        omega
    · have := ih _ _ _ h
      omega
theorem sp_next_lt {σ : ss_S} {t k : Nat} (h : sp_next σ t = some k) : k < σ 7 0 ∧ σ 8 k = t := by
  have := sp_nth_lt σ t _ _ _ _ h
  omega
theorem sp_upd_f (σ : ss_S) (w f g j : Nat) (h : g ≠ 11 ∧ g ≠ 19) : sp_upd σ w f g j = σ g j := by
  unfold sp_upd
  split
  · split
    · rfl
    · rw [ss_uf _ _ _ _ h.1, ss_uf _ _ _ _ h.2]
  · rw [ss_uf _ _ _ _ h.1]
    split
    · rfl
    · rw [ss_uf _ _ _ _ h.1, ss_uf _ _ _ _ h.2]
theorem sp_choose_f (σ : ss_S) (c g j : Nat) (h : g ≠ 11 ∧ g ≠ 19) : sp_choose σ c g j = σ g j := by
  unfold sp_choose
  split
  · rfl
  · exact sp_upd_f _ _ _ _ _ h
theorem sp_Bd.choose {σ : ss_S} {b : Nat} (h : sp_Bd b σ) (hb : 1000 ≤ b) (c : Nat) : sp_Bd b (sp_choose σ c) := by
  unfold sp_choose
  split
  · exact h
  · unfold sp_upd
    split
    · split
      · exact h
      · exact (h.u 19 _ (by omega)).u 11 _ (by omega)
    · split
      · exact h.u 11 _ (by omega)
      · exact ((h.u 19 _ (by omega)).u 11 _ (by omega)).u 11 _ (by omega)
theorem sp_V.choose {σ : ss_S} (h : sp_V σ) (c : Nat) : sp_V (sp_choose σ c) := by
  unfold sp_V at h ⊢
  simp only [sp_choose_f σ c _ _ (show (1 : Nat) ≠ 11 ∧ (1 : Nat) ≠ 19 by decide), sp_choose_f σ c _ _ (show (0 : Nat) ≠ 11 ∧ (0 : Nat) ≠ 19 by decide), sp_choose_f σ c _ _ (show (7 : Nat) ≠ 11 ∧ (7 : Nat) ≠ 19 by decide), sp_choose_f σ c _ _ (show (8 : Nat) ≠ 11 ∧ (8 : Nat) ≠ 19 by decide), sp_choose_f σ c _ _ (show (9 : Nat) ≠ 11 ∧ (9 : Nat) ≠ 19 by decide), sp_choose_f σ c _ _ (show (10 : Nat) ≠ 11 ∧ (10 : Nat) ≠ 19 by decide), sp_choose_f σ c _ _ (show (32 : Nat) ≠ 11 ∧ (32 : Nat) ≠ 19 by decide), sp_choose_f σ c _ _ (show (33 : Nat) ≠ 11 ∧ (33 : Nat) ≠ 19 by decide), sp_choose_f σ c _ _ (show (35 : Nat) ≠ 11 ∧ (35 : Nat) ≠ 19 by decide), sp_choose_f σ c _ _ (show (36 : Nat) ≠ 11 ∧ (36 : Nat) ≠ 19 by decide), sp_choose_f σ c _ _ (show (17 : Nat) ≠ 11 ∧ (17 : Nat) ≠ 19 by decide), sp_choose_f σ c _ _ (show (43 : Nat) ≠ 11 ∧ (43 : Nat) ≠ 19 by decide)]
  exact h
theorem sp_chosen_le {σ : ss_S} (hT : σ 1 0 ≤ 100) (c : Nat) : sp_chosen σ c < 101 := by
  have h1 := sp_run_le σ c (σ 1 0)
  have h2 := sp_best_le σ c (sp_running σ c) (σ 1 0)
  unfold sp_chosen
  unfold sp_running at h2 ⊢
  split <;> omega
section RI
variable {G : mj_G} {m : Nat} {A : Nat → Nat} {σ : ss_S} {μ μ0 : mj_MM} {b : Nat} {Ex : Option Value → mj_MM → Prop} {N S : Nat}
theorem rl_ceilA (he : ∀ μ', rf_Q m A (sp_cz σ 32) μ0 μ' → mj_nc μ' = mj_nc μ0 → mj_ns μ' = mj_ns μ0 → mj_J G mY_M_findCeilings Ex N S 23 [(0, va_rf (some m)), (1, .int 0)] [] μ') :
    ∀ d n μ, n + d = 32 → rf_Q m A (sp_cz σ n) μ0 μ → mj_nc μ = mj_nc μ0 → mj_ns μ = mj_ns μ0 → mj_J G mY_M_findCeilings Ex N S 2 [(0, va_rf (some m)), (1, .int (nI (n + 1)))] [] μ := by
  intro d
  induction d with
  | zero =>
    intro n μ hn hQ e1 e2
    have : n = 32 := by omega
    subst this
    exact bk_M_findCeilings_2 ⟨fun _ => he μ hQ e1 e2, fun h => absurd (by decide) h⟩
  | succ d ih =>
    intro n μ hn hQ e1 e2
    have h1 : ¬ (32 : Int32) < nI (n + 1) := fun q => by
      have := (nI_ltI (a := 32) (by decide) (by omega)).mp q
      omega
    refine bk_M_findCeilings_2 ⟨fun h => absurd h h1, fun _ => ?_⟩
    simp (disch := first | decide | assumption | omega) only [hQ.t, hQ.r, hQ.a0, hQ.a1, hQ.a2, hQ.a3, hQ.si, hQ.sl, hQ.l15, hQ.i1, hQ.v1, hQ.l1, hQ.i5, hQ.v5, hQ.l5, hQ.i3, hQ.v3, hQ.l3, hQ.i2, hQ.v2, hQ.l2, hQ.i4, hQ.v4, hQ.l4, Option.some.injEq, exists_eq_left', nI_clamp, nI_1, mj_vin, true_and, eq_self]
    exact ih (n + 1) _ (by omega) (hQ.pI 24 (n + 1) 0 (by decide) (by show _ < 33; omega)) e1 e2
theorem rl_ceilB (h : sp_Bd b σ) (hb : 1000 ≤ b) (hb2 : b ≤ 2 ^ 31) (hV : sp_V σ) (he : rf_E m A (sp_cl σ (σ 7 0)) μ0 Ex) :
    ∀ d n μ, n + d = σ 7 0 → rf_Q m A (sp_cl σ n) μ0 μ → mj_nc μ = mj_nc μ0 → mj_ns μ = mj_ns μ0 → mj_J G mY_M_findCeilings Ex N S 23 [(0, va_rf (some m)), (1, .int (nI n))] [] μ := by
  have hp := hV.2.2.1
  intro d
  induction d with
  | zero =>
    intro n μ hn hQ e1 e2
    have : n = σ 7 0 := by omega
    subst this
    have e7 : sp_cl σ (σ 7 0) 7 0 = σ 7 0 := sp_cl_f σ 7 0 (by decide) _
    refine bk_M_findCeilings_23 ?_
    simp (disch := first | decide | assumption | omega) only [hQ.t, hQ.r, hQ.a0, hQ.a1, hQ.a2, hQ.a3, hQ.si, hQ.sl, hQ.l15, hQ.i1, hQ.v1, hQ.l1, hQ.i5, hQ.v5, hQ.l5, hQ.i3, hQ.v3, hQ.l3, hQ.i2, hQ.v2, hQ.l2, hQ.i4, hQ.v4, hQ.l4, Option.some.injEq, exists_eq_left', nI_clamp, nI_1, mj_vin, true_and, eq_self, e7, mj_le]
    exact ⟨fun _ => he μ hQ e1 e2, fun h => absurd (by omega) h⟩
  | succ d ih =>
    intro n μ hn hQ e1 e2
    obtain ⟨v8, v9, v6, -⟩ := hV.2.2.2.2.2.1 n (by omega)
    have hbd := h.cl (by omega) n
    have hB := hbd.B hb2
    have e7 : sp_cl σ n 7 0 = σ 7 0 := sp_cl_f σ 7 0 (by decide) _
    have e8 : sp_cl σ n 8 n = σ 8 n := sp_cl_f σ 8 n (by decide) _
    have e9 : sp_cl σ n 9 n = σ 9 n := sp_cl_f σ 9 n (by decide) _
    have e10 : sp_cl σ n 10 n = σ 10 n := sp_cl_f σ 10 n (by decide) _
    have e2' : sp_cl σ n 2 (σ 8 n) = σ 2 (σ 8 n) := sp_cl_f σ 2 _ (by decide) _
    have b1 := hB 2 (σ 8 n)
    rw [e2'] at b1
    have b2 := hB 24 (σ 10 n)
    refine bk_M_findCeilings_23 ?_
    simp (disch := first | decide | assumption | omega) only [hQ.t, hQ.r, hQ.a0, hQ.a1, hQ.a2, hQ.a3, hQ.si, hQ.sl, hQ.l15, hQ.i1, hQ.v1, hQ.l1, hQ.i5, hQ.v5, hQ.l5, hQ.i3, hQ.v3, hQ.l3, hQ.i2, hQ.v2, hQ.l2, hQ.i4, hQ.v4, hQ.l4, Option.some.injEq, exists_eq_left', nI_clamp, nI_1, mj_vin, true_and, eq_self, e7, e8, e9, e10, lN_i, mj_le, mj_c6, mj_zz]
    refine ⟨fun q => absurd q (by omega), fun _ => ⟨fun q => ?_, fun q => ?_⟩⟩
    · refine ih (n + 1) μ (by omega) ?_ e1 e2
      unfold sp_cl
      rw [if_neg (fun z => q z.1)]
      exact hQ
    · have v10 := v6 q
      simp (disch := first | decide | assumption | omega) only [hQ.t, hQ.r, hQ.a0, hQ.a1, hQ.a2, hQ.a3, hQ.si, hQ.sl, hQ.l15, hQ.i1, hQ.v1, hQ.l1, hQ.i5, hQ.v5, hQ.l5, hQ.i3, hQ.v3, hQ.l3, hQ.i2, hQ.v2, hQ.l2, hQ.i4, hQ.v4, hQ.l4, Option.some.injEq, exists_eq_left', nI_clamp, nI_1, mj_vin, true_and, eq_self, e2', mj_le]
      refine ⟨fun q2 => ?_, fun q2 => ?_⟩
      · refine ih (n + 1) μ (by omega) ?_ e1 e2
        unfold sp_cl
        rw [if_neg (fun z => by omega)]
        exact hQ
      · refine ih (n + 1) _ (by omega) ?_ e1 e2
        unfold sp_cl
        rw [if_pos ⟨q, by omega⟩]
        exact hQ.pI 24 (σ 10 n) _ (by decide) v10
theorem rc_ceil (hR : rf_R m A σ μ) (h : sp_Bd b σ) (hb : 1000 ≤ b) (hb2 : b ≤ 2 ^ 31) (hV : sp_V σ) : rc_V G my_M_findCeilings mY_M_findCeilings m A μ [] (sp_ceil σ) := by
  have hQ := hR.self
  refine mj_of (by decide) rfl (by decide) (Nat.le_of_ble_eq_true rfl) rfl ⟨Nat.le_refl _, Nat.le_refl _⟩ ?_
  refine bk_M_findCeilings_0 ?_
  refine rl_ceilA (σ := σ) (μ0 := μ) (fun μ' hP e1 e2 => ?_) 32 0 μ rfl hQ rfl rfl
  exact rl_ceilB (μ0 := μ) h hb hb2 hV (fun μ2 hP2 r1 r2 => ⟨⟨rfl, hP2⟩, r1, r2⟩) (σ 7 0) 0 μ' (by omega) hP e1 e2
theorem rc_step (hR : rf_R m A σ μ) (h : sp_Bd b σ) (hb : 2 ^ 24 ≤ b) (hb2 : b + 100 ≤ 2 ^ 31) (hV : sp_V σ) (c : Nat) (hc : c < 100) : rc_I G my_M_step mY_M_step m A μ [.int (nI c)] (nI (sp_step σ c).2) (sp_step σ c).1 := by
  have hQ := hR.self
  have hB := h.B (by omega)
  refine mj_of (by decide) rfl (by decide) (Nat.le_of_ble_eq_true rfl) rfl ⟨Nat.le_refl _, Nat.le_refl _⟩ ?_
  have hV1 := hV.choose c
  have h1 := h.choose (by omega) c
  have hB1 := h1.B (by omega)
  have ht := sp_chosen_le hV.1 c
  have s18 : ¬ (c = 0 ∧ sp_atHand σ ≠ 0) → ∀ μ', rf_Q m A (sp_choose σ c) μ μ' → mj_nc μ' = mj_nc μ → mj_ns μ' = mj_ns μ → mj_J G mY_M_step (fun v μ' => mj_XI (fun x μ' => x = nI (sp_step σ c).2 ∧ rf_Q m A (sp_step σ c).1 μ μ') v μ' ∧ mj_nc μ' = mj_nc μ ∧ mj_ns μ' = mj_ns μ) (mj_nc μ) (mj_ns μ) 18 [(0, va_rf (some m))] [.int (nI (sp_chosen σ c))] μ' := by
    intro hn μ1 hP e1 e2
    unfold sp_step
    rw [if_neg hn]
    generalize sp_chosen σ c = t at ht ⊢
    generalize sp_choose σ c = τ at hP hV1 h1 hB1 ⊢
    have b1 := hB1 16 t
    have b2 := hB1 26 t
    unfold sp_step1
    refine bk_M_step_18 ?_
    simp (disch := first | decide | assumption | omega) only [hP.t, hP.r, hP.a0, hP.a1, hP.a2, hP.a3, hP.si, hP.sl, hP.l15, hP.i1, hP.v1, hP.l1, hP.i5, hP.v5, hP.l5, hP.i3, hP.v3, hP.l3, hP.i2, hP.v2, hP.l2, hP.i4, hP.v4, hP.l4, Option.some.injEq, exists_eq_left', nI_clamp, nI_1, mj_vin, true_and, eq_self, mj_z0, mj_le0]
    refine ⟨fun q => ?_, fun q => ⟨fun q2 => ?_, fun q2 => ⟨fun q3 => ⟨_, rc_nextPart hP.1 hB1 hV1.2.2.1 t ht, fun x μ2 hP2 r1 r2 => ?_⟩, fun q3 => ?_⟩⟩⟩
    · rw [if_pos (Or.inl q)]
      exact ⟨⟨_, rfl, rfl, hP⟩, e1, e2⟩
    · rw [if_pos (Or.inr (Or.inl q2))]
      exact ⟨⟨_, rfl, rfl, hP⟩, e1, e2⟩
    · rw [if_neg (by omega)]
      obtain ⟨hx, hP2⟩ := hP2
      have hP2 := hP.trans hP2
      have r1 := r1.trans e1
      have r2 := r2.trans e2
      cases hk : sp_next τ t with
      | none =>
        rw [hk] at hx
        dsimp only at hx ⊢
        subst hx
        refine bk_M_step_48 ⟨fun _ => ⟨fun z => absurd z (by decide), fun _ => ⟨hP2.t, _, rc_ends hP2.1 h1 (by omega) (by omega) hV1.1 t ht, fun μ3 hP3 u1 u2 => bk_M_step_73 (bk_M_step_93 ⟨⟨_, rfl, rfl, hP2.trans hP3⟩, u1.trans r1, u2.trans r2⟩)⟩⟩, fun z => absurd (by decide) z⟩
      | some k =>
        rw [hk] at hx
        dsimp only at hx ⊢
        subst hx
        have hk1 := (sp_next_lt hk).1
        have hp := hV1.2.2.1
        obtain ⟨w8, w9, w6, w7, w88, w99, w10⟩ := hV1.2.2.2.2.2.1 k hk1
        have w43 := hV1.2.2.2.2.2.2.2.2.2
        have w17 := hV1.2.2.2.2.2.2.2.2.1
        have hk5 : k < 500 := by omega
        have e0 : (nI k < 0) = False := eq_false (nI_pos (by omega))
        have e00 : (0 ≤ nI k) = True := eq_true (nI_pos' (by omega))
        refine bk_M_step_48 ?_
        simp (disch := first | decide | assumption | omega) only [hP2.t, hP2.r, hP2.a0, hP2.a1, hP2.a2, hP2.a3, hP2.si, hP2.sl, hP2.l15, hP2.i1, hP2.v1, hP2.l1, hP2.i5, hP2.v5, hP2.l5, hP2.i3, hP2.v3, hP2.l3, hP2.i2, hP2.v2, hP2.l2, hP2.i4, hP2.v4, hP2.l4, Option.some.injEq, exists_eq_left', nI_clamp, nI_1, mj_vin, true_and, eq_self, e0, e00, mj_z0]
        refine ⟨fun z => z.elim, fun _ => ⟨fun q4 => ⟨fun _ => ?_, fun z => absurd trivial z⟩, fun q4 => ?_⟩⟩
        · rw [if_neg q4]
          refine ⟨_, rc_act hP2.1 h1 (by omega) (by omega) hV1.1 t (τ 9 k) (τ 10 k) ht w9 (by omega) w6 w7 w88 w99 (fun i => ?_), fun μ3 hP3 u1 u2 => bk_M_step_93 ⟨⟨_, rfl, rfl, hP2.trans hP3⟩, u1.trans r1, u2.trans r2⟩⟩
          have : (τ 17 i ||| τ 10 k % 65536) < 2 ^ 16 := Nat.or_lt_two_pow (w17 i) (by omega)
          omega
        · rw [if_pos q4]
          exact ⟨⟨_, rfl, rfl, hP2⟩, r1, r2⟩
    · rw [if_pos (Or.inr (Or.inr q3))]
      exact ⟨⟨_, rfl, rfl, hP⟩, e1, e2⟩
  have goc : ¬ (c = 0 ∧ sp_atHand σ ≠ 0) → ∀ μ', rf_Q m A σ μ μ' → mj_nc μ' = mj_nc μ → mj_ns μ' = mj_ns μ → ∃ P : Int32 → mj_MM → Prop, mj_M G my_M_choose mY_M_choose [va_rf (some m), .int (nI c)] (mj_nc μ') (mj_ns μ') μ' (mj_XI P) ∧ ∀ (x : Int32) (μ2 : mj_MM), P x μ2 → mj_nc μ2 = mj_nc μ' → mj_ns μ2 = mj_ns μ' → mj_J G mY_M_step (fun v μ' => mj_XI (fun x μ' => x = nI (sp_step σ c).2 ∧ rf_Q m A (sp_step σ c).1 μ μ') v μ' ∧ mj_nc μ' = mj_nc μ ∧ mj_ns μ' = mj_ns μ) (mj_nc μ) (mj_ns μ) 18 [(0, va_rf (some m))] [.int x] μ2 := by
    intro hn μ' hP e1 e2
    refine ⟨_, rc_choose hP.1 h (by omega) hV.1 c hc, fun x μ2 hP2 r1 r2 => ?_⟩
    obtain ⟨hx, hP2⟩ := hP2
    subst hx
    exact s18 hn μ2 (hP.trans hP2) (r1.trans e1) (r2.trans e2)
  refine bk_M_step_0 ?_
  rw [mj_z0 (by omega)]
  refine ⟨fun q => ⟨hQ.t, goc (fun z => q z.1) μ hQ rfl rfl⟩, fun q => ⟨hQ.t, _, rc_atHand hR hB hV.2.2.2.2.1, fun x μ1 hP e1 e2 => ?_⟩⟩
  obtain ⟨hx, hP⟩ := hP
  subst hx
  have hl := sp_hand_le σ (σ 35 0)
  have h35 := hV.2.2.2.2.1
  refine bk_M_step_8 ?_
  rw [mj_m1neg (show sp_atHand σ < 2 ^ 31 by unfold sp_atHand; omega)]
  refine ⟨fun q2 => ⟨hP.t, goc (fun z => z.2 q2) μ1 hP e1 e2⟩, fun q2 => ?_⟩
  unfold sp_step
  rw [if_pos ⟨q, q2⟩]
  exact ⟨⟨_, rfl, rfl, hP⟩, e1, e2⟩
theorem rl_pass73 (h : sp_Bd b σ) (hb2 : b + 2 ≤ 2 ^ 31) (t : Nat) (ht : t < 101) (h15 : σ 15 t ≠ 0) (he : rf_E m A (sp_passA σ t) μ0 Ex) (hQ : rf_Q m A σ μ0 μ) (e1 : mj_nc μ = mj_nc μ0) (e2 : mj_ns μ = mj_ns μ0) :
    mj_J G mY_M_pass Ex N S 73 [(0, va_rf (some m)), (1, .int (nI t))] [] μ := by
  have b1 := h 15 t
  refine bk_M_pass_73 ?_
  have ee : lN (σ 15 t) - 1 - 1 = lN (σ 15 t - 1) - 1 := by
    rw [← lN_sub (show 1 ≤ σ 15 t by omega)]
    rfl
  simp (disch := first | decide | assumption | omega) only [hQ.t, hQ.r, hQ.a0, hQ.a1, hQ.a2, hQ.a3, hQ.si, hQ.sl, hQ.l15, hQ.i1, hQ.v1, hQ.l1, hQ.i5, hQ.v5, hQ.l5, hQ.i3, hQ.v3, hQ.l3, hQ.i2, hQ.v2, hQ.l2, hQ.i4, hQ.v4, hQ.l4, Option.some.injEq, exists_eq_left', nI_clamp, nI_1, mj_vin, true_and, eq_self, ee]
  have hQ2 := hQ.pL 15 t (σ 15 t - 1) (by decide) ht
  rw [show rf_e 15 (σ 15 t - 1) = lN (σ 15 t - 1) - 1 from rfl] at hQ2
  refine bk_M_pass_83 ?_
  have e1' : (lN (σ 15 t - 1) - 1 ≤ 0) = (σ 15 t - 1 ≤ 1) := by
    apply propext
    cases hz : σ 15 t - 1 with
    | zero => exact ⟨fun _ => by omega, fun _ => by decide⟩
    | succ z =>
      rw [show lN (z + 1) - 1 = lN z from by rw [show (1 : Int64) = lN 1 from rfl, lN_sub (by omega)]; rfl, mj_LE0 (by omega)]
      omega
  simp (disch := first | decide | assumption | omega) only [hQ2.t, hQ2.r, hQ2.a0, hQ2.a1, hQ2.a2, hQ2.a3, hQ2.si, hQ2.sl, hQ2.l15, hQ2.i1, hQ2.v1, hQ2.l1, hQ2.i5, hQ2.v5, hQ2.l5, hQ2.i3, hQ2.v3, hQ2.l3, hQ2.i2, hQ2.v2, hQ2.l2, hQ2.i4, hQ2.v4, hQ2.l4, Option.some.injEq, exists_eq_left', nI_clamp, nI_1, mj_vin, true_and, eq_self, ss_us, e1']
  unfold sp_passA at he
  refine ⟨fun q => ?_, fun q => ?_⟩
  · rw [if_pos q] at he
    have hQ3 := hQ2.pL 15 t 0 (by decide) ht
    rw [show rf_e 15 0 = -1 from by decide] at hQ3
    refine bk_M_pass_104 ?_
    simp (disch := first | decide | assumption | omega) only [hQ3.t, hQ3.r, hQ3.a0, hQ3.a1, hQ3.a2, hQ3.a3, hQ3.si, hQ3.sl, hQ3.l15, hQ3.i1, hQ3.v1, hQ3.l1, hQ3.i5, hQ3.v5, hQ3.l5, hQ3.i3, hQ3.v3, hQ3.l3, hQ3.i2, hQ3.v2, hQ3.l2, hQ3.i4, hQ3.v4, hQ3.l4, Option.some.injEq, exists_eq_left', nI_clamp, nI_1, mj_vin, true_and, eq_self]
    exact bk_M_pass_114 (he _ (hQ3.pI 14 t _ (by decide) ht) e1 e2)
  · rw [if_neg q] at he
    exact he _ hQ2 e1 e2
theorem rc_pass (hR : rf_R m A σ μ) (h : sp_Bd b σ) (hb : 2 ^ 24 ≤ b) (hb2 : b + 10 ≤ 2 ^ 31) (hV : sp_V σ) (t : Nat) (ht : t < 101) (hok : σ 26 t ≠ 0 ∨ σ 16 t ≠ 0 ∨ σ 15 t ≠ 0 ∨ sp_next (ss_u σ 20 t (σ 20 t + 1)) t ≠ none) : rc_V G my_M_pass mY_M_pass m A μ [.int (nI t)] (sp_pass σ t) := by
  have hQ := hR.self
  have b0 := h 20 t
  refine mj_of (by decide) rfl (by decide) (Nat.le_of_ble_eq_true rfl) rfl ⟨Nat.le_refl _, Nat.le_refl _⟩ ?_
  refine bk_M_pass_0 ?_
  simp (disch := first | decide | assumption | omega) only [hQ.t, hQ.r, hQ.a0, hQ.a1, hQ.a2, hQ.a3, hQ.si, hQ.sl, hQ.l15, hQ.i1, hQ.v1, hQ.l1, hQ.i5, hQ.v5, hQ.l5, hQ.i3, hQ.v3, hQ.l3, hQ.i2, hQ.v2, hQ.l2, hQ.i4, hQ.v4, hQ.l4, Option.some.injEq, exists_eq_left', nI_clamp, nI_1, mj_vin, true_and, eq_self, lN_1]
  have hQ2 := hQ.pL 20 t (σ 20 t + 1) (by decide) ht
  rw [show rf_e 20 (σ 20 t + 1) = lN (σ 20 t + 1) from rfl] at hQ2
  unfold sp_pass
  have h1 : sp_Bd (b + 1) (ss_u σ 20 t (σ 20 t + 1)) := (h.mono (Nat.le_succ b)).u 20 t (by omega)
  have hV1 : sp_V (ss_u σ 20 t (σ 20 t + 1)) := hV
  rw [show (σ 26 t ≠ 0 ∨ σ 16 t ≠ 0 ∨ σ 15 t ≠ 0 ∨ sp_next (ss_u σ 20 t (σ 20 t + 1)) t ≠ none) = (ss_u σ 20 t (σ 20 t + 1) 26 t ≠ 0 ∨ ss_u σ 20 t (σ 20 t + 1) 16 t ≠ 0 ∨ ss_u σ 20 t (σ 20 t + 1) 15 t ≠ 0 ∨ sp_next (ss_u σ 20 t (σ 20 t + 1)) t ≠ none) from rfl] at hok
  generalize ss_u σ 20 t (σ 20 t + 1) = τ at hQ2 h1 hV1 hok ⊢
  have hB1 := h1.B (by omega)
  have b1 := hB1 26 t
  have b2 := hB1 16 t
  have b3 := h1 15 t
  unfold sp_passB
  refine bk_M_pass_10 ?_
  have e15 : (0 ≤ lN (τ 15 t) - 1) = (τ 15 t ≠ 0) := by
    apply propext
    cases hz : τ 15 t with
    | zero => exact ⟨fun q => absurd q (by decide), fun q => absurd rfl q⟩
    | succ z =>
      rw [show lN (z + 1) - 1 = lN z from by rw [show (1 : Int64) = lN 1 from rfl, lN_sub (by omega)]; rfl, show (0 : Int64) = lN 0 from rfl, mj_LE (by omega) (by omega)]
      omega
  simp (disch := first | decide | assumption | omega) only [hQ2.t, hQ2.r, hQ2.a0, hQ2.a1, hQ2.a2, hQ2.a3, hQ2.si, hQ2.sl, hQ2.l15, hQ2.i1, hQ2.v1, hQ2.l1, hQ2.i5, hQ2.v5, hQ2.l5, hQ2.i3, hQ2.v3, hQ2.l3, hQ2.i2, hQ2.v2, hQ2.l2, hQ2.i4, hQ2.v4, hQ2.l4, Option.some.injEq, exists_eq_left', nI_clamp, nI_1, mj_vin, true_and, eq_self, mj_le0, mj_z0, e15]
  refine ⟨fun q => ⟨fun q2 => ⟨fun q3 => ?_, fun q3 => ⟨_, rc_nextPart hQ2.1 hB1 hV1.2.2.1 t ht, fun x μ2 hP2 r1 r2 => ?_⟩⟩, fun q2 => ?_⟩, fun q => ?_⟩
  · rw [if_neg (fun z => z q), if_neg (fun z => z q2), if_pos q3]
    exact rl_pass73 h1 (by omega) t ht q3 (fun μ' hP r1 r2 => ⟨⟨rfl, hP⟩, r1, r2⟩) hQ2 rfl rfl
  · rw [if_neg (fun z => z q), if_neg (fun z => z q2), if_neg q3]
    obtain ⟨hx, hP2⟩ := hP2
    have hP := hQ2.trans hP2
    cases hk : sp_next τ t with
    | none => exact hok.elim (fun z => absurd q z) (fun z => z.elim (fun z => absurd q2 z) (fun z => z.elim (fun z => absurd z q3) (fun z => absurd hk z)))
    | some k =>
      rw [hk] at hx
      dsimp only at hx ⊢
      subst hx
      have hk1 := (sp_next_lt hk).1
      have hp := hV1.2.2.1
      obtain ⟨-, -, -, -, -, -, w10⟩ := hV1.2.2.2.2.2.1 k hk1
      have hk5 : k < 500 := by omega
      refine bk_M_pass_71 ?_
      simp (disch := first | decide | assumption | omega) only [hP.t, hP.r, hP.a0, hP.a1, hP.a2, hP.a3, hP.si, hP.sl, hP.l15, hP.i1, hP.v1, hP.l1, hP.i5, hP.v5, hP.l5, hP.i3, hP.v3, hP.l3, hP.i2, hP.v2, hP.l2, hP.i4, hP.v4, hP.l4, Option.some.injEq, exists_eq_left', nI_clamp, nI_1, mj_vin, true_and, eq_self]
      have hP3 := hP.pL 15 t (τ 10 k + 1) (by decide) ht
      rw [show rf_e 15 (τ 10 k + 1) = lN (τ 10 k) from by show lN (τ 10 k + 1) - 1 = _; rw [show (1 : Int64) = lN 1 from rfl, lN_sub (by omega)]; rfl] at hP3
      exact rl_pass73 (h1.u 15 t (by omega)) (by omega) t ht (by rw [ss_us]; omega) (fun μ' hP r1 r2 => ⟨⟨rfl, hP⟩, r1, r2⟩) hP3 r1 r2
  · rw [if_neg (fun z => z q), if_pos q2]
    have hQ3 := (hQ2.pI 16 t 0 (by decide) ht).pL 15 t 0 (by decide) ht
    rw [show rf_e 15 0 = -1 from by decide] at hQ3
    exact bk_M_pass_45 ⟨⟨rfl, hQ3⟩, rfl, rfl⟩
  · rw [if_pos q]
    exact ⟨⟨rfl, hQ2⟩, (by first | exact ⟨rfl, rfl⟩ | trivial)⟩
end RI
