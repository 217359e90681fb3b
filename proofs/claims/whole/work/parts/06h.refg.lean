theorem mj_c2 : (2 : Int32) = nI 2 := rfl
theorem mj_c3 : (3 : Int32) = nI 3 := rfl
theorem mj_c4 : (4 : Int32) = nI 4 := rfl
theorem mj_c5 : (5 : Int32) = nI 5 := rfl
theorem mj_c8 : (8 : Int32) = nI 8 := rfl
theorem mj_c9 : (9 : Int32) = nI 9 := rfl
theorem mj_c10 : (10 : Int32) = nI 10 := rfl
theorem mj_c11 : (11 : Int32) = nI 11 := rfl
theorem mj_c12 : (12 : Int32) = nI 12 := rfl
theorem mj_le0 {a : Nat} (h : a < 2 ^ 31) : (nI a ≤ 0) = (a = 0) := by
  rw [show (0 : Int32) = nI 0 from rfl, mj_le h (by decide)]
  apply propext
  omega
section RG
variable {G : mj_G} {m : Nat} {A : Nat → Nat} {σ : ss_S} {μ μ0 : mj_MM} {b : Nat} {Ex : Option Value → mj_MM → Prop} {N S : Nat}
/-- what a method's end must hold, for a method of the reference that returns nothing -/
abbrev rf_E (m : Nat) (A : Nat → Nat) (σ' : ss_S) (μ0 : mj_MM) (Ex : Option Value → mj_MM → Prop) : Prop := ∀ μ', rf_Q m A σ' μ0 μ' → mj_nc μ' = mj_nc μ0 → mj_ns μ' = mj_ns μ0 → Ex none μ'
theorem rl_a654 (hB : sp_B σ) (t c : Nat) (hc : c < 10) (he : rf_E m A (sp_code σ t c) μ0 Ex) (hQ : rf_Q m A σ μ0 μ) (e1 : mj_nc μ = mj_nc μ0) (e2 : mj_ns μ = mj_ns μ0) :
    mj_J G mY_M_act Ex N S 654 [(0, va_rf (some m)), (1, .int (nI t)), (6, .int (nI c))] [] μ := by
  refine bk_M_act_654 ?_
  simp (disch := first | decide | assumption | omega) only [hQ.t, hQ.r, hQ.a0, hQ.a1, hQ.a2, hQ.a3, hQ.si, hQ.sl, hQ.l15, hQ.i1, hQ.v1, hQ.l1, hQ.i5, hQ.v5, hQ.l5, hQ.i3, hQ.v3, hQ.l3, hQ.i2, hQ.v2, hQ.l2, hQ.i4, hQ.v4, hQ.l4, Option.some.injEq, exists_eq_left', nI_clamp, nI_1, mj_vin, true_and, eq_self, mj_le0]
  refine ⟨fun h => bk_M_act_666 (he μ ?_ e1 e2), fun h => ⟨_, rc_tell hQ.1 hB c t, fun μ2 hP q1 q2 => bk_M_act_666 (he μ2 ?_ (q1.trans e1) (q2.trans e2))⟩⟩
  · unfold sp_code
    rw [if_pos h]
    exact hQ
  · unfold sp_code
    rw [if_neg h]
    exact hQ.trans hP
theorem rl_a555 (h : sp_Bd b σ) (hb : 1000 ≤ b) (hb2 : b + 80 ≤ 2 ^ 31) (t k x : Nat) (ht : t < 101) (hk : k < 14) (hx : σ 43 0 + x < b) (n : k ≠ 1 ∧ k ≠ 3 ∧ k ≠ 4 ∧ k ≠ 5 ∧ k ≠ 6 ∧ k ≠ 7 ∧ k ≠ 8 ∧ k ≠ 9 ∧ k ≠ 10) (he : rf_E m A (sp_do σ t k x) μ0 Ex) (hQ : rf_Q m A σ μ0 μ) (e1 : mj_nc μ = mj_nc μ0) (e2 : mj_ns μ = mj_ns μ0) :
    mj_J G mY_M_act Ex N S 555 [(0, va_rf (some m)), (1, .int (nI t)), (2, .int (nI k)), (3, .long (lN x))] [] μ := by
  have hB := h.B (by omega)
  have b1 := hB 3 t
  have b2 := hB 29 0
  have b3 := h 43 0
  obtain ⟨n1, n3, n4, n5, n6, n7, n8, n9, n10⟩ := n
  unfold sp_do at he
  rw [if_neg n1, if_neg n3, if_neg n4, if_neg n5, if_neg n6, if_neg n7, if_neg n8, if_neg n9, if_neg n10] at he
  refine bk_M_act_555 ?_
  simp (disch := first | decide | assumption | omega) only [hQ.t, hQ.r, hQ.a0, hQ.a1, hQ.a2, hQ.a3, hQ.si, hQ.sl, hQ.l15, hQ.i1, hQ.v1, hQ.l1, hQ.i5, hQ.v5, hQ.l5, hQ.i3, hQ.v3, hQ.l3, hQ.i2, hQ.v2, hQ.l2, hQ.i4, hQ.v4, hQ.l4, Option.some.injEq, exists_eq_left', nI_clamp, nI_1, mj_vin, true_and, eq_self, mj_c12, mj_zz, mj_z0, mj_le0, lN_add]
  have f629 : σ 3 t ≠ 0 ∨ σ 29 0 = 0 → k ≠ 12 → mj_J G mY_M_act Ex N S 629 [(0, va_rf (some m)), (1, .int (nI t))] [] μ := by
    intro hc hk12
    refine bk_M_act_629 ?_
    simp (disch := first | decide | assumption | omega) only [hQ.t, hQ.r, hQ.a0, hQ.a1, hQ.a2, hQ.a3, hQ.si, hQ.sl, hQ.l15, hQ.i1, hQ.v1, hQ.l1, hQ.i5, hQ.v5, hQ.l5, hQ.i3, hQ.v3, hQ.l3, hQ.i2, hQ.v2, hQ.l2, hQ.i4, hQ.v4, hQ.l4, Option.some.injEq, exists_eq_left', nI_clamp, nI_1, mj_vin, true_and, eq_self]
    refine rl_a654 (σ := ss_u σ 29 0 (σ 29 0)) ((h.u 29 0 (h 29 0)).B (by omega)) t 7 (by decide) ?_ (hQ.sI 29 _ rfl) e1 e2
    rw [if_neg hk12, if_pos hc] at he
    exact he
  have f577 : σ 3 t ≠ 0 ∨ 0 < σ 29 0 → k = 12 → mj_J G mY_M_act Ex N S 577 [(0, va_rf (some m)), (1, .int (nI t)), (3, .long (lN x))] [] μ := by
    intro hc hk12
    refine bk_M_act_577 (rl_a654 hB t 7 (by decide) ?_ hQ e1 e2)
    rw [if_pos hk12, if_pos hc] at he
    exact he
  refine ⟨fun q => ⟨fun q2 => f629 (Or.inl q2) q, fun q2 => ⟨fun q3 => ?_, fun q3 => f629 (Or.inr q3) q⟩⟩, fun q => ⟨fun q2 => f577 (Or.inl q2) q, fun q2 => ⟨fun q3 => ?_, fun q3 => f577 (Or.inr (by omega)) q⟩⟩⟩
  · refine rl_a654 (σ := ss_u σ 29 0 0) ((h.u 29 0 (by omega)).B (by omega)) t 0 (by decide) ?_ (hQ.sI 29 0 rfl) e1 e2
    rw [if_neg q, if_neg (fun z => by omega)] at he
    exact he
  · refine rl_a654 (σ := ss_u (ss_u (ss_u σ 29 0 t) 30 0 (σ 43 0 + x)) 31 0 0) ?_ t 0 (by decide) ?_ (((hQ.sI 29 t rfl).sL 30 (σ 43 0 + x) rfl).sI 31 0 rfl) e1 e2
    · exact (((h.u 29 0 (by omega)).u 30 0 hx).u 31 0 (by omega)).B (by omega)
    · rw [if_pos q, if_neg (fun z => by omega)] at he
      exact he
theorem rl_a500 (h : sp_Bd b σ) (hb : 1000 ≤ b) (hb2 : b + 80 ≤ 2 ^ 31) (hT : σ 1 0 ≤ 100) (t k x : Nat) (ht : t < 101) (hk : k < 14) (hx : σ 43 0 + x < b) (h9 : k = 9 → x < 17) (n : k ≠ 1 ∧ k ≠ 3 ∧ k ≠ 4 ∧ k ≠ 5 ∧ k ≠ 6 ∧ k ≠ 7 ∧ k ≠ 8) (he : rf_E m A (sp_do σ t k x) μ0 Ex) (hQ : rf_Q m A σ μ0 μ) (e1 : mj_nc μ = mj_nc μ0) (e2 : mj_ns μ = mj_ns μ0) :
    mj_J G mY_M_act Ex N S 500 [(0, va_rf (some m)), (1, .int (nI t)), (2, .int (nI k)), (3, .long (lN x)), (5, .int (nI x)), (6, .int 0)] [] μ := by
  have hB := h.B (by omega)
  refine bk_M_act_500 ?_
  rw [mj_c9, mj_zz (by omega) (by decide)]
  refine ⟨fun q => ?_, fun q => ?_⟩
  · refine bk_M_act_539 ?_
    rw [mj_c10, mj_zz (by omega) (by decide)]
    refine ⟨fun q2 => ?_, fun q2 => ?_⟩
    · exact rl_a555 h hb hb2 t k x ht hk hx ⟨n.1, n.2.1, n.2.2.1, n.2.2.2.1, n.2.2.2.2.1, n.2.2.2.2.2.1, n.2.2.2.2.2.2, q, q2⟩ he hQ e1 e2
    · simp (disch := first | decide | assumption | omega) only [hQ.t, hQ.r, hQ.a0, hQ.a1, hQ.a2, hQ.a3, hQ.si, hQ.sl, hQ.l15, hQ.i1, hQ.v1, hQ.l1, hQ.i5, hQ.v5, hQ.l5, hQ.i3, hQ.v3, hQ.l3, hQ.i2, hQ.v2, hQ.l2, hQ.i4, hQ.v4, hQ.l4, Option.some.injEq, exists_eq_left', nI_clamp, nI_1, mj_vin, true_and, eq_self]
      refine rl_a654 (σ := ss_u σ 19 t 1) ((h.u 19 t (by omega)).B (by omega)) t 0 (by decide) ?_ (hQ.pI 19 t 1 (by decide) ht) e1 e2
      unfold sp_do at he
      rw [if_neg n.1, if_neg n.2.1, if_neg n.2.2.1, if_neg n.2.2.2.1, if_neg n.2.2.2.2.1, if_neg n.2.2.2.2.2.1, if_neg n.2.2.2.2.2.2, if_neg q, if_pos q2] at he
      exact he
  · have hx9 := h9 q
    have b1 := hB 25 x
    unfold sp_do at he
    rw [if_neg n.1, if_neg n.2.1, if_neg n.2.2.1, if_neg n.2.2.2.1, if_neg n.2.2.2.2.1, if_neg n.2.2.2.2.2.1, if_neg n.2.2.2.2.2.2, if_pos q] at he
    simp (disch := first | decide | assumption | omega) only [hQ.t, hQ.r, hQ.a0, hQ.a1, hQ.a2, hQ.a3, hQ.si, hQ.sl, hQ.l15, hQ.i1, hQ.v1, hQ.l1, hQ.i5, hQ.v5, hQ.l5, hQ.i3, hQ.v3, hQ.l3, hQ.i2, hQ.v2, hQ.l2, hQ.i4, hQ.v4, hQ.l4, Option.some.injEq, exists_eq_left', nI_clamp, nI_1, mj_vin, true_and, eq_self, mj_zz]
    refine ⟨fun q2 => ?_, fun q2 => ⟨_, rc_unlock hQ.1 hB hT x hx9, fun μ2 hP r1 r2 => ?_⟩⟩
    · rw [if_neg q2] at he
      exact rl_a654 hB t 6 (by decide) he hQ e1 e2
    · rw [if_pos q2] at he
      exact bk_M_act_536 (rl_a654 ((h.unlock hb hT x).B (by omega)) t 0 (by decide) he (hQ.trans hP) (r1.trans e1) (r2.trans e2))
theorem rl_a388 (h : sp_Bd b σ) (hb : 1000 ≤ b) (hb2 : b + 80 ≤ 2 ^ 31) (t x : Nat) (ht : t < 101) (hx : x < 33) (he : rf_E m A (sp_code (ss_u σ 22 x (if sp_fc σ t x 32 = 0 then 0 else σ 22 x)) t (sp_fc σ t x 32)) μ0 Ex) (hQ : rf_Q m A σ μ0 μ) (e1 : mj_nc μ = mj_nc μ0) (e2 : mj_ns μ = mj_ns μ0) :
    ∀ d r, r + d = 32 → mj_J G mY_M_act Ex N S 388 [(0, va_rf (some m)), (1, .int (nI t)), (5, .int (nI x)), (6, .int (nI (sp_fc σ t x r))), (7, .int (nI (r + 1)))] [] μ := by
  have hB := h.B (by omega)
  have bx := h 22 x
  intro d
  induction d with
  | zero =>
    intro r hr
    have : r = 32 := by omega
    subst this
    have hc := sp_fc_le σ t x 32
    refine bk_M_act_388 ⟨fun _ => ?_, fun h => absurd (by decide) h⟩
    generalize sp_fc σ t x 32 = c at he hc ⊢
    simp (disch := first | decide | assumption | omega) only [hQ.t, hQ.r, hQ.a0, hQ.a1, hQ.a2, hQ.a3, hQ.si, hQ.sl, hQ.l15, hQ.i1, hQ.v1, hQ.l1, hQ.i5, hQ.v5, hQ.l5, hQ.i3, hQ.v3, hQ.l3, hQ.i2, hQ.v2, hQ.l2, hQ.i4, hQ.v4, hQ.l4, Option.some.injEq, exists_eq_left', nI_clamp, nI_1, mj_vin, true_and, eq_self, mj_z0]
    refine ⟨fun q => ?_, fun q => ?_⟩
    · rw [if_neg q] at he
      exact rl_a654 (σ := ss_u σ 22 x (σ 22 x)) ((h.u 22 x bx).B (by omega)) t c (by omega) he (hQ.pI 22 x _ (by decide) hx) e1 e2
    · rw [if_pos q] at he
      exact rl_a654 (σ := ss_u σ 22 x 0) ((h.u 22 x (by omega)).B (by omega)) t c (by omega) he (hQ.pI 22 x 0 (by decide) hx) e1 e2
  | succ d ih =>
    intro r hr
    have h1 : ¬ (32 : Int32) < nI (r + 1) := fun q => by
      have := (nI_ltI (a := 32) (by decide) (by omega)).mp q
      omega
    have b1 := hB 22 (r + 1)
    have b2 := hB 23 (r + 1)
    have b3 := hB 23 x
    have n1 := ih (r + 1) (by omega)
    have f428 : ∀ c, mj_J G mY_M_act Ex N S 388 [(0, va_rf (some m)), (1, .int (nI t)), (5, .int (nI x)), (6, .int (nI c)), (7, .int (nI (r + 1 + 1)))] [] μ → mj_J G mY_M_act Ex N S 428 [(0, va_rf (some m)), (1, .int (nI t)), (5, .int (nI x)), (6, .int (nI c)), (7, .int (nI (r + 1)))] [] μ := by
      intro c hc
      refine bk_M_act_428 ?_
      rw [nI_1]
      exact hc
    refine bk_M_act_388 ⟨fun h => absurd h h1, fun _ => ?_⟩
    simp (disch := first | decide | assumption | omega) only [hQ.t, hQ.r, hQ.a0, hQ.a1, hQ.a2, hQ.a3, hQ.si, hQ.sl, hQ.l15, hQ.i1, hQ.v1, hQ.l1, hQ.i5, hQ.v5, hQ.l5, hQ.i3, hQ.v3, hQ.l3, hQ.i2, hQ.v2, hQ.l2, hQ.i4, hQ.v4, hQ.l4, Option.some.injEq, exists_eq_left', nI_clamp, nI_1, mj_vin, true_and, eq_self, mj_zz, mj_LE]
    unfold sp_fc at n1
    refine ⟨fun q => f428 _ ?_, fun q => ⟨fun q2 => f428 _ ?_, fun q2 => ?_⟩⟩
    · rw [if_neg (fun z => q z.1)] at n1
      exact n1
    · rw [if_neg (fun z => by omega)] at n1
      exact n1
    · rw [if_pos ⟨q, by omega⟩] at n1
      exact n1
theorem rl_a361 (h : sp_Bd b σ) (hb : 1000 ≤ b) (hb2 : b + 80 ≤ 2 ^ 31) (hT : σ 1 0 ≤ 100) (t k x : Nat) (ht : t < 101) (hk : k < 14) (hx : σ 43 0 + x < b) (h7 : k = 7 → x < 33) (h8 : k = 8 → x < 17) (h9 : k = 9 → x < 17) (n : k ≠ 1 ∧ k ≠ 3 ∧ k ≠ 4 ∧ k ≠ 5 ∧ k ≠ 6) (he : rf_E m A (sp_do σ t k x) μ0 Ex) (hQ : rf_Q m A σ μ0 μ) (e1 : mj_nc μ = mj_nc μ0) (e2 : mj_ns μ = mj_ns μ0) :
    mj_J G mY_M_act Ex N S 361 [(0, va_rf (some m)), (1, .int (nI t)), (2, .int (nI k)), (3, .long (lN x)), (5, .int (nI x)), (6, .int 0)] [] μ := by
  have hB := h.B (by omega)
  refine bk_M_act_361 ?_
  rw [mj_c7, mj_zz (by omega) (by decide)]
  refine ⟨fun q => ?_, fun q => ?_⟩
  · refine bk_M_act_464 ?_
    rw [mj_c8, mj_zz (by omega) (by decide)]
    refine ⟨fun q2 => ?_, fun q2 => ?_⟩
    · exact rl_a500 h hb hb2 hT t k x ht hk hx h9 ⟨n.1, n.2.1, n.2.2.1, n.2.2.2.1, n.2.2.2.2, q, q2⟩ he hQ e1 e2
    · have hx8 := h8 q2
      have b1 := hB 25 x
      unfold sp_do at he
      rw [if_neg n.1, if_neg n.2.1, if_neg n.2.2.1, if_neg n.2.2.2.1, if_neg n.2.2.2.2, if_neg q, if_pos q2] at he
      simp (disch := first | decide | assumption | omega) only [hQ.t, hQ.r, hQ.a0, hQ.a1, hQ.a2, hQ.a3, hQ.si, hQ.sl, hQ.l15, hQ.i1, hQ.v1, hQ.l1, hQ.i5, hQ.v5, hQ.l5, hQ.i3, hQ.v3, hQ.l3, hQ.i2, hQ.v2, hQ.l2, hQ.i4, hQ.v4, hQ.l4, Option.some.injEq, exists_eq_left', nI_clamp, nI_1, mj_vin, true_and, eq_self, mj_zz]
      have hB2 : sp_B (ss_u σ 25 x t) := (h.u 25 x (by omega)).B (by omega)
      have hQ2 := hQ.pI 25 x t (by decide) hx8
      refine ⟨fun q3 => ?_, fun q3 => ?_⟩
      · rw [if_neg q3] at he
        exact rl_a654 hB2 t 0 (by decide) he hQ2 e1 e2
      · rw [if_pos q3] at he
        exact rl_a654 hB2 t 6 (by decide) he hQ2 e1 e2
  · have hx7 := h7 q
    have b1 := hB 22 x
    unfold sp_do at he
    rw [if_neg n.1, if_neg n.2.1, if_neg n.2.2.1, if_neg n.2.2.2.1, if_neg n.2.2.2.2, if_pos q] at he
    have n1 := rl_a388 (G := G) (N := N) (S := S) h hb hb2 t x ht hx7 he hQ e1 e2 32 0 rfl
    unfold sp_fc at n1
    simp (disch := first | decide | assumption | omega) only [hQ.t, hQ.r, hQ.a0, hQ.a1, hQ.a2, hQ.a3, hQ.si, hQ.sl, hQ.l15, hQ.i1, hQ.v1, hQ.l1, hQ.i5, hQ.v5, hQ.l5, hQ.i3, hQ.v3, hQ.l3, hQ.i2, hQ.v2, hQ.l2, hQ.i4, hQ.v4, hQ.l4, Option.some.injEq, exists_eq_left', nI_clamp, nI_1, mj_vin, true_and, eq_self, mj_zz]
    refine ⟨fun q3 => ?_, fun q3 => ?_⟩
    · rw [if_neg q3] at n1
      exact n1
    · rw [if_pos q3] at n1
      exact n1
theorem rl_a196 (h : sp_Bd b σ) (hb : 1000 ≤ b) (hb2 : b + 80 ≤ 2 ^ 31) (hT : σ 1 0 ≤ 100) (t k x : Nat) (ht : t < 101) (hk : k < 14) (hx : σ 43 0 + x < b) (h6 : k = 6 → x < 33) (h7 : k = 7 → x < 33) (h8 : k = 8 → x < 17) (h9 : k = 9 → x < 17) (hE : ∀ i, (σ 17 i ||| x % 65536) < b) (n : k ≠ 1 ∧ k ≠ 3) (he : rf_E m A (sp_do σ t k x) μ0 Ex) (hQ : rf_Q m A σ μ0 μ) (e1 : mj_nc μ = mj_nc μ0) (e2 : mj_ns μ = mj_ns μ0) :
    mj_J G mY_M_act Ex N S 196 [(0, va_rf (some m)), (1, .int (nI t)), (2, .int (nI k)), (3, .long (lN x)), (5, .int (nI x)), (6, .int 0)] [] μ := by
  have hB := h.B (by omega)
  refine bk_M_act_196 ?_
  rw [mj_c4, mj_zz (by omega) (by decide)]
  refine ⟨fun q => ?_, fun q => ?_⟩
  · refine bk_M_act_246 ?_
    rw [mj_c5, mj_zz (by omega) (by decide)]
    refine ⟨fun q2 => ?_, fun q2 => ?_⟩
    · refine bk_M_act_301 ?_
      rw [mj_c6, mj_zz (by omega) (by decide)]
      refine ⟨fun q3 => ?_, fun q3 => ?_⟩
      · exact rl_a361 h hb hb2 hT t k x ht hk hx h7 h8 h9 ⟨n.1, n.2, q, q2, q3⟩ he hQ e1 e2
      · have hx6 := h6 q3
        have b1 := hB 22 x
        have b2 := h 28 0
        unfold sp_do at he
        rw [if_neg n.1, if_neg n.2, if_neg q, if_neg q2, if_pos q3] at he
        simp (disch := first | decide | assumption | omega) only [hQ.t, hQ.r, hQ.a0, hQ.a1, hQ.a2, hQ.a3, hQ.si, hQ.sl, hQ.l15, hQ.i1, hQ.v1, hQ.l1, hQ.i5, hQ.v5, hQ.l5, hQ.i3, hQ.v3, hQ.l3, hQ.i2, hQ.v2, hQ.l2, hQ.i4, hQ.v4, hQ.l4, Option.some.injEq, exists_eq_left', nI_clamp, nI_1, mj_vin, true_and, eq_self, mj_z0, lN_1]
        refine ⟨fun q4 => ?_, fun q4 => ?_⟩
        · rw [if_neg q4] at he
          exact rl_a654 hB t 4 (by decide) he hQ e1 e2
        · rw [if_pos q4] at he
          have h1 := h.mono (Nat.le_succ b)
          exact rl_a654 (σ := ss_u (ss_u (ss_u σ 28 0 (σ 28 0 + 1)) 22 x t) 23 x (σ 28 0 + 1)) ((((h1.u 28 0 (by omega)).u 22 x (by omega)).u 23 x (by omega)).B (by omega)) t 0 (by decide) he (((hQ.sL 28 (σ 28 0 + 1) rfl).pI 22 x t (by decide) hx6).pL 23 x (σ 28 0 + 1) (by decide) hx6) e1 e2
    · have b1 := hB 5 t
      have b2 := h 17 t
      unfold sp_do at he
      rw [if_neg n.1, if_neg n.2, if_neg q, if_pos q2] at he
      simp (disch := first | decide | assumption | omega) only [hQ.t, hQ.r, hQ.a0, hQ.a1, hQ.a2, hQ.a3, hQ.si, hQ.sl, hQ.l15, hQ.i1, hQ.v1, hQ.l1, hQ.i5, hQ.v5, hQ.l5, hQ.i3, hQ.v3, hQ.l3, hQ.i2, hQ.v2, hQ.l2, hQ.i4, hQ.v4, hQ.l4, Option.some.injEq, exists_eq_left', nI_clamp, nI_1, mj_vin, true_and, eq_self, mj_z0]
      refine ⟨fun q4 => ?_, fun q4 => ?_⟩
      · rw [if_pos q4] at he
        exact rl_a654 (σ := ss_u σ 17 t (σ 17 t)) ((h.u 17 t b2).B (by omega)) t 2 (by decide) he (hQ.pI 17 t _ (by decide) ht) e1 e2
      · rw [if_neg q4] at he
        rw [← ev_clr_nI]
        have := ev_clr_le x (hB 17 t)
        exact rl_a654 (σ := ss_u σ 17 t (ev_clr (σ 17 t) x)) ((h.u 17 t (by omega)).B (by omega)) t 0 (by decide) he (hQ.pI 17 t _ (by decide) ht) e1 e2
  · unfold sp_do at he
    rw [if_neg n.1, if_neg n.2, if_pos q] at he
    have ed : nI x / 65536 = nI (x / 65536) := pk_div (d := 65536) (by omega) (by decide) (by decide)
    have em : nI x - nI x / 65536 * 65536 = nI (x % 65536) := pk_rem (d := 65536) (by omega) (by decide) (by decide)
    rw [ed]
    refine ⟨hQ.t, _, rc_no_ok hQ.1 hB (x / 65536) (by omega), fun y μ2 hP r1 r2 => ?_⟩
    obtain ⟨hy, hP⟩ := hP
    refine bk_M_act_214 ⟨fun hz => ⟨hP.t, ?_⟩, fun hz => ?_⟩
    · have hok : 1 ≤ x / 65536 ∧ x / 65536 ≤ σ 1 0 := by
        refine Classical.byContradiction fun z => ?_
        rw [if_neg z] at hy
        rw [hy] at hz
        exact absurd hz (by decide)
      rw [if_pos hok] at he
      rw [em]
      refine ⟨_, rc_set hP.1 hB (x / 65536) (x % 65536) (by omega), fun z μ3 hP3 u1 u2 => ?_⟩
      obtain ⟨hz3, hP3⟩ := hP3
      by_cases hs : σ 5 (x / 65536) ≠ 0 ∧ σ 11 (x / 65536) ≠ 0
      · rw [if_pos hs] at hz3 hP3 he
        have hBs : sp_B (sp_set σ (x / 65536) (x % 65536)) := by
          have h1 := h.u 17 (x / 65536) (hE (x / 65536))
          unfold sp_set
          split
          · exact (h1.ready hb _).B (by omega)
          · exact h1.B (by omega)
        refine bk_M_act_233 ⟨fun z0 => ?_, fun _ => ?_⟩
        · rw [hz3] at z0
          exact absurd z0 (by decide)
        · exact rl_a654 hBs t 0 (by decide) he ((hQ.trans hP).trans hP3) ((u1.trans r1).trans e1) ((u2.trans r2).trans e2)
      · rw [if_neg hs] at hz3 hP3 he
        refine bk_M_act_233 ⟨fun _ => ?_, fun z0 => absurd hz3 z0⟩
        exact rl_a654 hB t 5 (by decide) he ((hQ.trans hP).trans hP3) ((u1.trans r1).trans e1) ((u2.trans r2).trans e2)
    · have hno : ¬ (1 ≤ x / 65536 ∧ x / 65536 ≤ σ 1 0) := fun z => hz (by rw [hy, if_pos z])
      rw [if_neg hno] at he
      exact rl_a654 hB t 8 (by decide) he (hQ.trans hP) (r1.trans e1) (r2.trans e2)
theorem rl_a98 (h : sp_Bd b σ) (hb : 1000 ≤ b) (hb2 : b + 80 ≤ 2 ^ 31) (hT : σ 1 0 ≤ 100) (t k x : Nat) (ht : t < 101) (hk : k < 14) (hx : σ 43 0 + x < b) (h6 : k = 6 → x < 33) (h7 : k = 7 → x < 33) (h8 : k = 8 → x < 17) (h9 : k = 9 → x < 17) (hE : ∀ i, (σ 17 i ||| x % 65536) < b) (he : rf_E m A (sp_do σ t k x) μ0 Ex) (hQ : rf_Q m A σ μ0 μ) (e1 : mj_nc μ = mj_nc μ0) (e2 : mj_ns μ = mj_ns μ0) :
    mj_J G mY_M_act Ex N S 98 [(0, va_rf (some m)), (1, .int (nI t)), (2, .int (nI k)), (3, .long (lN x)), (5, .int (nI x)), (6, .int 0)] [] μ := by
  have hB := h.B (by omega)
  refine bk_M_act_98 ?_
  rw [mj_z1 (by omega)]
  refine ⟨fun q => ?_, fun q => ?_⟩
  · refine bk_M_act_128 ?_
    rw [mj_z3 (by omega)]
    refine ⟨fun q2 => ?_, fun q2 => ?_⟩
    · exact rl_a196 h hb hb2 hT t k x ht hk hx h6 h7 h8 h9 hE ⟨q, q2⟩ he hQ e1 e2
    · have b1 := hB 5 t
      unfold sp_do at he
      rw [if_neg q, if_pos q2] at he
      simp (disch := first | decide | assumption | omega) only [hQ.t, hQ.r, hQ.a0, hQ.a1, hQ.a2, hQ.a3, hQ.si, hQ.sl, hQ.l15, hQ.i1, hQ.v1, hQ.l1, hQ.i5, hQ.v5, hQ.l5, hQ.i3, hQ.v3, hQ.l3, hQ.i2, hQ.v2, hQ.l2, hQ.i4, hQ.v4, hQ.l4, Option.some.injEq, exists_eq_left', nI_clamp, nI_1, mj_vin, true_and, eq_self, mj_z0]
      refine ⟨fun q3 => ⟨_, rc_holdsSome hQ.1 hB t ht, fun y μ2 hP r1 r2 => ?_⟩, fun q3 => ?_⟩
      · obtain ⟨hy, hP⟩ := hP
        subst hy
        rw [if_neg q3] at he
        have hP := hQ.trans hP
        have hle := sp_hl_le σ t 16
        have b3 : sp_holds σ t < 2 ^ 31 := by unfold sp_holds; omega
        have b4 : σ 17 t &&& x < 2 ^ 31 := Nat.lt_of_le_of_lt Nat.and_le_left (hB 17 t)
        refine bk_M_act_151 ?_
        simp (disch := first | decide | assumption | omega) only [hP.t, hP.r, hP.a0, hP.a1, hP.a2, hP.a3, hP.si, hP.sl, hP.l15, hP.i1, hP.v1, hP.l1, hP.i5, hP.v5, hP.l5, hP.i3, hP.v3, hP.l3, hP.i2, hP.v2, hP.l2, hP.i4, hP.v4, hP.l4, Option.some.injEq, exists_eq_left', nI_clamp, nI_1, mj_vin, true_and, eq_self, mj_z0, nI_and]
        refine ⟨fun q4 => ⟨fun q5 => ?_, fun q5 => ?_⟩, fun q4 => ?_⟩
        · rw [if_neg (fun z => z q4), if_neg q5] at he
          exact rl_a654 hB t 0 (by decide) he hP (r1.trans e1) (r2.trans e2)
        · rw [if_neg (fun z => z q4), if_pos q5] at he
          exact rl_a654 (σ := ss_u (ss_u σ 11 t 3) 18 t x) (((h.u 11 t (by omega)).u 18 t (by omega)).B (by omega)) t 0 (by decide) he ((hP.pI 11 t 3 (by decide) ht).pI 18 t x (by decide) ht) (r1.trans e1) (r2.trans e2)
        · rw [if_pos q4] at he
          exact rl_a654 hB t 4 (by decide) he hP (r1.trans e1) (r2.trans e2)
      · rw [if_pos q3] at he
        exact rl_a654 hB t 2 (by decide) he hQ e1 e2
  · unfold sp_do at he
    rw [if_pos q] at he
    refine ⟨hQ.t, _, rc_no_ok hQ.1 hB x (by omega), fun y μ2 hP r1 r2 => ?_⟩
    obtain ⟨hy, hP⟩ := hP
    refine bk_M_act_109 ⟨fun hz => ⟨hP.t, ?_⟩, fun hz => ?_⟩
    · have hok : 1 ≤ x ∧ x ≤ σ 1 0 := by
        refine Classical.byContradiction fun z => ?_
        rw [if_neg z] at hy
        rw [hy] at hz
        exact absurd hz (by decide)
      rw [if_pos hok] at he
      have hw := h 13 x
      refine ⟨_, rc_begin hP.1 hB x (by omega) (by omega), fun μ3 hP3 u1 u2 => bk_M_act_125 (rl_a654 ((h.begin hb (by omega)).B (by omega)) t 0 (by decide) he ((hQ.trans hP).trans hP3) ((u1.trans r1).trans e1) ((u2.trans r2).trans e2))⟩
    · have hno : ¬ (1 ≤ x ∧ x ≤ σ 1 0) := fun z => hz (by rw [hy, if_pos z])
      rw [if_neg hno] at he
      exact rl_a654 hB t 8 (by decide) he (hQ.trans hP) (r1.trans e1) (r2.trans e2)
theorem rc_act (hR : rf_R m A σ μ) (h : sp_Bd b σ) (hb : 1000 ≤ b) (hb2 : b + 90 ≤ 2 ^ 31) (hT : σ 1 0 ≤ 100) (t k x : Nat) (ht : t < 101) (hk : k < 14) (hx : σ 43 0 + x < b) (h6 : k = 6 → x < 33) (h7 : k = 7 → x < 33) (h8 : k = 8 → x < 17) (h9 : k = 9 → x < 17) (hE : ∀ i, (σ 17 i ||| x % 65536) < b) :
    rc_V G my_M_act mY_M_act m A μ [.int (nI t), .int (nI k), .long (lN x)] (sp_act σ t k x) := by
  have hQ := hR.self
  have hB := h.B (by omega)
  refine mj_of (by decide) rfl (by decide) (Nat.le_of_ble_eq_true rfl) rfl ⟨Nat.le_refl _, Nat.le_refl _⟩ ?_
  refine bk_M_act_0 ?_
  rw [lN_i]
  refine bk_M_act_7 ?_
  rw [mj_c2, mj_zz (by omega) (by decide)]
  refine ⟨fun q => ?_, fun q => ⟨hQ.t, _, rc_chain hR h hb (by omega) hT t x ht (by omega), fun μ2 hP r1 r2 => bk_M_act_19 ⟨⟨rfl, ?_⟩, r1, r2⟩⟩⟩
  · refine bk_M_act_20 ?_
    rw [mj_c11, mj_zz (by omega) (by decide)]
    refine ⟨fun q2 => ?_, fun q2 => ⟨hQ.t, _, rc_ends hR h hb (by omega) hT t ht, fun μ2 hP r1 r2 => bk_M_act_31 ⟨⟨rfl, ?_⟩, r1, r2⟩⟩⟩
    · have n88 : ¬ (k = 8 ∧ σ 25 x ≠ 0 ∧ σ 25 x ≠ t) → mj_J G mY_M_act (fun v μ' => mj_XV (fun μ' => rf_Q m A (sp_act σ t k x) μ μ') v μ' ∧ mj_nc μ' = mj_nc μ ∧ mj_ns μ' = mj_ns μ) (mj_nc μ) (mj_ns μ) 88 [(0, va_rf (some m)), (1, .int (nI t)), (2, .int (nI k)), (3, .long (lN x)), (5, .int (nI x)), (6, .int 0)] [] μ := by
        intro q3
        have b1 := h 14 t
        have h1 := h.mono (Nat.le_succ b)
        refine bk_M_act_88 ?_
        simp (disch := first | decide | assumption | omega) only [hQ.t, hQ.r, hQ.a0, hQ.a1, hQ.a2, hQ.a3, hQ.si, hQ.sl, hQ.l15, hQ.i1, hQ.v1, hQ.l1, hQ.i5, hQ.v5, hQ.l5, hQ.i3, hQ.v3, hQ.l3, hQ.i2, hQ.v2, hQ.l2, hQ.i4, hQ.v4, hQ.l4, Option.some.injEq, exists_eq_left', nI_clamp, nI_1, mj_vin, true_and, eq_self]
        refine rl_a98 (b := b + 1) (σ := ss_u σ 14 t (σ 14 t + 1)) (h1.u 14 t (by omega)) (by omega) (by omega) hT t k x ht hk (Nat.lt_succ_of_lt hx) h6 h7 h8 h9 (fun i => Nat.lt_succ_of_lt (hE i)) (fun μ' hP r1 r2 => ⟨⟨rfl, ?_⟩, r1, r2⟩) (hQ.pI 14 t _ (by decide) ht) rfl rfl
        unfold sp_act
        rw [if_neg q, if_neg q2, if_neg q3]
        exact hP
      have b1 := h 28 0
      refine bk_M_act_32 ?_
      rw [mj_c8, mj_zz (by omega) (by decide)]
      refine ⟨fun q3 => n88 (fun z => q3 z.1), fun q3 => ?_⟩
      have hx8 := h8 q3
      have b2 := hB 25 x
      simp (disch := first | decide | assumption | omega) only [hQ.t, hQ.r, hQ.a0, hQ.a1, hQ.a2, hQ.a3, hQ.si, hQ.sl, hQ.l15, hQ.i1, hQ.v1, hQ.l1, hQ.i5, hQ.v5, hQ.l5, hQ.i3, hQ.v3, hQ.l3, hQ.i2, hQ.v2, hQ.l2, hQ.i4, hQ.v4, hQ.l4, Option.some.injEq, exists_eq_left', nI_clamp, nI_1, mj_vin, true_and, eq_self, mj_z0, mj_zz, lN_1]
      refine ⟨fun q4 => n88 (fun z => z.2.1 q4), fun q4 => ⟨fun q5 => n88 (fun z => z.2.2 q5), fun q5 => ⟨⟨rfl, ?_⟩, (by first | exact ⟨rfl, rfl⟩ | trivial)⟩⟩⟩
      unfold sp_act
      rw [if_neg q, if_neg q2, if_pos ⟨q3, q4, q5⟩]
      exact ((hQ.sL 28 (σ 28 0 + 1) rfl).pI 26 t x (by decide) ht).pL 27 t (σ 28 0 + 1) (by decide) ht
    · unfold sp_act
      rw [if_neg q, if_pos q2]
      exact hP
  · unfold sp_act
    rw [if_pos q]
    exact hP
end RG
