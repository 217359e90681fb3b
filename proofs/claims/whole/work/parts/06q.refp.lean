theorem sp_ordc_le (σ : ss_S) (i : Int) (t : Nat) (p : Nat × Nat) (hp : p.1 ≤ 8 * t ∧ p.2 ≤ 8 * t + 8) : ∀ c, c ≤ 8 → (sp_ordc σ i t p c).1 ≤ 8 * t + c ∧ (sp_ordc σ i t p c).2 ≤ 8 * t + 8 := by
  intro c
  induction c with
  | zero =>
    intro _
    exact ⟨by show p.1 ≤ _; omega, hp.2⟩
  | succ c ih =>
    intro hc
    have := ih (by omega)
    unfold sp_ordc
    split
    · omega
    · refine ⟨by show (_ : Nat) + 1 ≤ _; omega, ?_⟩
      show (if _ then _ else _) ≤ _
      split
      · show 8 * t + c + 1 ≤ _
        omega
      · omega
theorem sp_ord_le (σ : ss_S) (i : Int) (hC : σ 0 0 ≤ 8) : ∀ t, (sp_ord σ i t).1 ≤ 8 * t ∧ (sp_ord σ i t).2 ≤ 8 * t + 8 := by
  intro t
  induction t with
  | zero => exact ⟨Nat.le_refl 0, Nat.zero_le _⟩
  | succ t ih =>
    have := sp_ordc_le σ i t _ ih (σ 0 0) hC
    unfold sp_ord
    omega
theorem sp_ordc_ok (σ : ss_S) (i : Int) (t C T : Nat) (p : Nat × Nat) (ht : t < T) (hp : p.2 = 0 ∨ ((p.2 - 1) % 8 < C ∧ (p.2 - 1) / 8 < T)) : ∀ c, c ≤ C → C ≤ 8 → (sp_ordc σ i t p c).2 = 0 ∨ (((sp_ordc σ i t p c).2 - 1) % 8 < C ∧ ((sp_ordc σ i t p c).2 - 1) / 8 < T) := by
  intro c
  induction c with
  | zero => exact fun _ _ => hp
  | succ c ih =>
    intro hc h8
    have := ih (by omega) h8
    unfold sp_ordc
    split
    · exact this
    · show (if _ then _ else _) = 0 ∨ (((if _ then _ else _) - 1) % 8 < C ∧ ((if _ then _ else _) - 1) / 8 < T)
      split
      · right
        have e : 8 * t + c + 1 - 1 = 8 * t + c := by omega
        rw [e]
        omega
      · exact this
theorem sp_ord_ok (σ : ss_S) (i : Int) (hC : σ 0 0 ≤ 8) : ∀ t T, t ≤ T → (sp_ord σ i t).2 = 0 ∨ (((sp_ord σ i t).2 - 1) % 8 < σ 0 0 ∧ ((sp_ord σ i t).2 - 1) / 8 < T) := by
  intro t
  induction t with
  | zero => exact fun _ _ => Or.inl rfl
  | succ t ih =>
    intro T h
    exact sp_ordc_ok σ i t (σ 0 0) T _ (by omega) (ih T (by omega)) (σ 0 0) (Nat.le_refl _) hC
section RP
variable {G : mj_G} {m : Nat} {A : Nat → Nat} {σ : ss_S} {μ μ0 : mj_MM} {Ex : Option Value → mj_MM → Prop} {N S : Nat}
theorem rc_isSwitch (hR : rf_R m A σ μ) (hB : sp_B σ) (c t : Nat) (hc : c < 8) (ht : t < 50000) : rc_I G my_M_isSwitch mY_M_isSwitch m A μ [.int (nI c), .int (nI t)] (nI (sp_isw σ c t)) σ := by
  have hQ := hR.self
  refine mj_of (by decide) rfl (by decide) (Nat.le_of_ble_eq_true rfl) rfl ⟨Nat.le_refl _, Nat.le_refl _⟩ ?_
  have hi : 50000 * c + t < 400000 := by omega
  have ei : (50000 : Int32) * nI c + nI t = nI (50000 * c + t) := by
    rw [show (50000 : Int32) = nI 50000 from rfl, pk_mul, nI_add]
  have b1 := hB 44 (50000 * c + t)
  have b2 := hB 44 (50000 * c + t - 1)
  unfold sp_isw sp_bef
  refine bk_M_isSwitch_0 ⟨hQ.t, _, hQ.r 44 (by decide), hQ.a3 44 (by decide), ?_⟩
  rw [ei, nI_clamp (by omega), hQ.i 44 (by decide) hi, mj_z0 (by omega), mj_z0 (by omega)]
  refine ⟨hQ.v 44 (by decide) hi, fun h => ?_, fun h => ⟨fun h2 => ?_, fun h2 => ?_⟩⟩
  · have ej : nI (50000 * c + t) - 1 = nI (50000 * c + t - 1) := by
      obtain ⟨z, hz⟩ : ∃ z, 50000 * c + t = z + 1 := ⟨50000 * c + t - 1, by omega⟩
      rw [hz, nI_pred]
      rfl
    have hj : 50000 * c + t - 1 < 400000 := by omega
    rw [ej, nI_clamp (by omega), hQ.i 44 (by decide) hj, mj_zz b1 b2, if_neg h]
    refine ⟨hQ.v 44 (by decide) hj, fun h2 => ?_, fun h2 => ?_⟩
    · rw [if_pos h2]
      exact ⟨⟨_, rfl, rfl, hQ⟩, rfl, rfl⟩
    · rw [if_neg h2]
      exact ⟨⟨_, rfl, rfl, hQ⟩, rfl, rfl⟩
  · rw [if_pos h, if_pos h2]
    exact ⟨⟨_, rfl, rfl, hQ⟩, rfl, rfl⟩
  · rw [if_pos h, if_neg h2]
    exact ⟨⟨_, rfl, rfl, hQ⟩, rfl, rfl⟩
theorem rl_orderE (hB : sp_B σ) (hC : σ 0 0 ≤ 8) (hn : σ 43 0 ≤ 50000) (v w : Int32) (hQ : rf_Q m A σ μ0 μ) (fin : ∀ x, x = an_order σ v.toInt w.toInt → Ex (some (.int x)) μ) :
    mj_J G mY_M_order Ex N S 8 [(0, va_rf (some m)), (1, .int v), (2, .int w), (3, .int (nI (sp_ord σ v.toInt (σ 43 0)).1)), (4, .int (nI (sp_ord σ v.toInt (σ 43 0)).2 - 1)), (5, .int (nI (σ 43 0)))] [] μ := by
  have h1 := sp_ord_le σ v.toInt hC (σ 43 0)
  have h2 := sp_ord_ok σ v.toInt hC (σ 43 0) (σ 43 0) (Nat.le_refl _)
  refine bk_M_order_8 ?_
  rw [hQ.sl 43 rfl, nI_l (by omega), mj_LE (by omega) (by omega)]
  unfold an_order at fin
  refine ⟨hQ.t, fun _ => ?_, fun q => absurd (Nat.le_refl _) q⟩
  have one : ∀ x, x = an_order σ v.toInt w.toInt → Ex (some (.int x)) μ := fin
  unfold an_order at one
  have e0 : (0 : Int32).toInt = 0 := by decide
  have e1 : (1 : Int32).toInt = 1 := by decide
  have e2 : (2 : Int32).toInt = 2 := by decide
  have em : (-1 : Int32).toInt = -1 := by decide
  simp only [mj_iLT w, mj_iLE w, mj_iEQ w, mj_iEQ v, e0, e1, e2, em]
  generalize (sp_ord σ v.toInt (σ 43 0)).1 = n at *
  generalize (sp_ord σ v.toInt (σ 43 0)).2 = f at *
  have tail : ¬ (v.toInt = -1 ∧ w.toInt = 0) → ((0 ≤ nI f - 1 → ((w.toInt < 0 → Ex (some (.int (-2))) μ) ∧ (¬ w.toInt < 0 → ((w.toInt ≤ 2 → ((¬ w.toInt = 0 → ((¬ w.toInt = 1 → (∃ b2 : Nat, (mj_r μ m 44 = some b2) ∧ (mj_t μ b2 = 1003) ∧ (vp_in ((50000 * (nI f - 1 - (nI f - 1) / 8 * 8)) + ((nI f - 1) / 8)) (mj_n μ b2)) ∧ Ex (some (.int (mj_i μ b2 (Int32.toNatClampNeg ((50000 * (nI f - 1 - (nI f - 1) / 8 * 8)) + ((nI f - 1) / 8)))))) μ)) ∧ (w.toInt = 1 → Ex (some (.int (nI f - 1 - (nI f - 1) / 8 * 8))) μ))) ∧ (w.toInt = 0 → Ex (some (.int ((nI f - 1) / 8))) μ))) ∧ (¬ w.toInt ≤ 2 → Ex (some (.int (-2))) μ))))) ∧ (¬ 0 ≤ nI f - 1 → Ex (some (.int (-1))) μ)) := by
    intro hv
    cases f with
    | zero =>
      rw [show nI 0 - 1 = -1 from by decide]
      refine ⟨fun q => absurd q (by decide), fun _ => one _ ?_⟩
      rw [if_neg hv, if_pos rfl]
    | succ x =>
      have hx : x < 2 ^ 31 := by omega
      rw [if_neg hv, if_neg (by omega)] at one
      have ex : x + 1 - 1 = x := rfl
      rw [ex] at one h2
      rw [nI_pred, show (8 : Int32) = nI 8 from rfl, pk_rem hx (by decide) (by decide), pk_div hx (by decide) (by decide), show (50000 : Int32) = nI 50000 from rfl, pk_mul, nI_add]
      have hi : 50000 * (x % 8) + x / 8 < 400000 := by omega
      refine ⟨fun _ => ⟨fun q => one _ ?_, fun q => ⟨fun q2 => ⟨fun q3 => ⟨fun q4 => ?_, fun q4 => one _ ?_⟩, fun q3 => one _ ?_⟩, fun q2 => one _ ?_⟩⟩, fun q => absurd (nI_pos' hx) q⟩
      · rw [if_neg (by omega), if_neg (by omega), if_neg (by omega)]
      · refine ⟨_, hQ.r 44 (by decide), hQ.a3 44 (by decide), hQ.v 44 (by decide) hi, one _ ?_⟩
        rw [nI_clamp (by omega), hQ.i 44 (by decide) hi, if_neg (by omega), if_neg (by omega), if_pos (by omega)]
      · rw [if_neg (by omega), if_pos (by omega)]
      · rw [if_pos (by omega)]
      · rw [if_neg (by omega), if_neg (by omega), if_neg (by omega)]
  refine ⟨fun q => tail (fun z => q z.1), fun q => ⟨fun q2 => tail (fun z => q2 z.2), fun q2 => one _ ?_⟩⟩
  rw [if_pos ⟨q, q2⟩]
theorem rl_orderI (hB : sp_B σ) (hC : σ 0 0 ≤ 8) (v w : Int32) (t : Nat) (ht : t < 50000) (hp : (sp_ord σ v.toInt t).1 ≤ 8 * t ∧ (sp_ord σ v.toInt t).2 ≤ 8 * t + 8)
    (he : ∀ μ', rf_Q m A σ μ0 μ' → mj_nc μ' = mj_nc μ0 → mj_ns μ' = mj_ns μ0 → mj_J G mY_M_order Ex N S 8 [(0, va_rf (some m)), (1, .int v), (2, .int w), (3, .int (nI (sp_ord σ v.toInt (t + 1)).1)), (4, .int (nI (sp_ord σ v.toInt (t + 1)).2 - 1)), (5, .int (nI (t + 1)))] [] μ') :
    ∀ d c μ, c + d = σ 0 0 → rf_Q m A σ μ0 μ → mj_nc μ = mj_nc μ0 → mj_ns μ = mj_ns μ0 → mj_J G mY_M_order Ex N S 22 [(0, va_rf (some m)), (1, .int v), (2, .int w), (3, .int (nI (sp_ordc σ v.toInt t (sp_ord σ v.toInt t) c).1)), (4, .int (nI (sp_ordc σ v.toInt t (sp_ord σ v.toInt t) c).2 - 1)), (5, .int (nI t)), (6, .int (nI c))] [] μ := by
  intro d
  induction d with
  | zero =>
    intro c μ hc hQ e1 e2
    have : c = σ 0 0 := by omega
    subst this
    refine bk_M_order_22 ?_
    simp (disch := first | decide | assumption | omega) only [hQ.t, hQ.r, hQ.a0, hQ.a1, hQ.a2, hQ.a3, hQ.si, hQ.sl, hQ.l15, hQ.i1, hQ.v1, hQ.l1, hQ.i5, hQ.v5, hQ.l5, hQ.i3, hQ.v3, hQ.l3, hQ.i2, hQ.v2, hQ.l2, hQ.i4, hQ.v4, hQ.l4, Option.some.injEq, exists_eq_left', nI_clamp, nI_1, mj_vin, true_and, eq_self, mj_le]
    exact ⟨fun _ => he μ hQ e1 e2, fun q => absurd (Nat.le_refl _) q⟩
  | succ d ih =>
    intro c μ hc hQ e1 e2
    have hl := sp_ordc_le σ v.toInt t _ hp c (by omega)
    refine bk_M_order_22 ?_
    simp (disch := first | decide | assumption | omega) only [hQ.t, hQ.r, hQ.a0, hQ.a1, hQ.a2, hQ.a3, hQ.si, hQ.sl, hQ.l15, hQ.i1, hQ.v1, hQ.l1, hQ.i5, hQ.v5, hQ.l5, hQ.i3, hQ.v3, hQ.l3, hQ.i2, hQ.v2, hQ.l2, hQ.i4, hQ.v4, hQ.l4, Option.some.injEq, exists_eq_left', nI_clamp, nI_1, mj_vin, true_and, eq_self, mj_le]
    refine ⟨fun q => absurd q (by omega), fun _ => ⟨_, rc_isSwitch hQ.1 hB c t (by omega) ht, fun x μ2 hP r1 r2 => ?_⟩⟩
    obtain ⟨hx, hP⟩ := hP
    subst hx
    have i1 := ih (c + 1) μ2 (by omega) (hQ.trans hP) (r1.trans e1) (r2.trans e2)
    have b1 : sp_isw σ c t < 2 ^ 31 := by
      unfold sp_isw
      split <;> decide
    unfold sp_ordc at i1
    refine bk_M_order_39 ?_
    rw [mj_z0 b1, nI_1, nI_1, mj_iEQ _ v, nI_toInt (by omega)]
    refine ⟨fun q => ⟨fun q2 => ?_, fun q2 => ?_⟩, fun q => ?_⟩
    · rw [if_neg q, if_neg q2] at i1
      exact i1
    · rw [if_neg q, if_pos q2] at i1
      rw [show (8 : Int32) = nI 8 from rfl, pk_mul, nI_add]
      have i2 : nI (8 * t + c + 1) - 1 = nI (8 * t + c) := nI_pred _
      simp only [i2] at i1
      exact i1
    · rw [if_pos q] at i1
      exact i1
theorem rl_order (hB : sp_B σ) (hC : σ 0 0 ≤ 8) (hn : σ 43 0 ≤ 50000) (v w : Int32) (fin : ∀ μ', rf_Q m A σ μ0 μ' → mj_nc μ' = mj_nc μ0 → mj_ns μ' = mj_ns μ0 → ∀ x, x = an_order σ v.toInt w.toInt → Ex (some (.int x)) μ') :
    ∀ d t μ, t + d = σ 43 0 → rf_Q m A σ μ0 μ → mj_nc μ = mj_nc μ0 → mj_ns μ = mj_ns μ0 → mj_J G mY_M_order Ex N S 8 [(0, va_rf (some m)), (1, .int v), (2, .int w), (3, .int (nI (sp_ord σ v.toInt t).1)), (4, .int (nI (sp_ord σ v.toInt t).2 - 1)), (5, .int (nI t))] [] μ := by
  intro d
  induction d with
  | zero =>
    intro t μ ht hQ e1 e2
    have : t = σ 43 0 := by omega
    subst this
    exact rl_orderE hB hC hn v w hQ (fin μ hQ e1 e2)
  | succ d ih =>
    intro t μ ht hQ e1 e2
    refine bk_M_order_8 ?_
    rw [hQ.sl 43 rfl, nI_l (by omega), mj_LE (by omega) (by omega)]
    refine ⟨hQ.t, fun q => absurd q (by omega), fun _ => ?_⟩
    exact rl_orderI (μ0 := μ0) hB hC v w t (by omega) (sp_ord_le σ v.toInt hC t) (fun μ' h1 h2 h3 => ih (t + 1) μ' (by omega) h1 h2 h3) (σ 0 0) 0 μ (by omega) hQ e1 e2
theorem rc_order (hR : rf_R m A σ μ) (hB : sp_B σ) (hC : σ 0 0 ≤ 8) (hn : σ 43 0 ≤ 50000) (v w : Int32) : rc_I G my_M_order mY_M_order m A μ [.int v, .int w] (an_order σ v.toInt w.toInt) σ := by
  have hQ := hR.self
  refine mj_of (by decide) rfl (by decide) (Nat.le_of_ble_eq_true rfl) rfl ⟨Nat.le_refl _, Nat.le_refl _⟩ ?_
  exact bk_M_order_0 (rl_order (μ0 := μ) hB hC hn v w (fun μ' h1 h2 h3 x hx => ⟨⟨x, rfl, hx, h1⟩, h2, h3⟩) (σ 43 0) 0 μ (by omega) hQ rfl rfl)
theorem sp_fstc_le (σ : ss_S) (c l : Nat) : ∀ n, sp_fstc σ c l n ≤ n := by
  intro n
  induction n with
  | zero => exact Nat.le_refl 0
  | succ n ih =>
    unfold sp_fstc
    split
    · exact Nat.le_refl _
    · omega
theorem rl_spin (hB : sp_B σ) (hT : σ 1 0 ≤ 100) (c l : Nat) (hc : c < 100) (hl : l < 17) (hQ : rf_Q m A σ μ0 μ) (hE : Ex (some (.int (-nI (sp_fstc σ c l (σ 1 0))))) μ) :
    ∀ d n, n + d = σ 1 0 → mj_J G mY_M_spin Ex N S 67 [(0, va_rf (some m)), (1, .int (nI c)), (2, .int (nI l)), (3, .int (nI (sp_fstc σ c l n))), (4, .int (nI (n + 1)))] [] μ := by
  intro d
  induction d with
  | zero =>
    intro n hn
    have : n = σ 1 0 := by omega
    subst this
    refine bk_M_spin_67 ?_
    simp (disch := first | decide | assumption | omega) only [hQ.t, hQ.r, hQ.a0, hQ.a1, hQ.a2, hQ.a3, hQ.si, hQ.sl, hQ.l15, hQ.i1, hQ.v1, hQ.l1, hQ.i5, hQ.v5, hQ.l5, hQ.i3, hQ.v3, hQ.l3, hQ.i2, hQ.v2, hQ.l2, hQ.i4, hQ.v4, hQ.l4, Option.some.injEq, exists_eq_left', nI_clamp, nI_1, mj_vin, true_and, eq_self, mj_lt]
    exact ⟨fun _ => hE, fun q => absurd (by omega) q⟩
  | succ d ih =>
    intro n hn
    have b3 := hB 3 (n + 1)
    have b26 := hB 26 (n + 1)
    have b27 := hB 27 (n + 1)
    have b28 := hB 27 (sp_fstc σ c l n)
    have hf := sp_fstc_le σ c l n
    have hn1 : n + 1 < 101 := by omega
    have hf1 : sp_fstc σ c l n < 101 := by omega
    have i1 := ih (n + 1) (by omega)
    unfold sp_fstc at i1
    refine bk_M_spin_67 ?_
    simp (disch := first | decide | assumption | omega) only [hQ.t, hQ.r, hQ.a0, hQ.a1, hQ.a2, hQ.a3, hQ.si, hQ.sl, hQ.l15, hQ.i1, hQ.v1, hQ.l1, hQ.i5, hQ.v5, hQ.l5, hQ.i3, hQ.v3, hQ.l3, hQ.i2, hQ.v2, hQ.l2, hQ.i4, hQ.v4, hQ.l4, Option.some.injEq, exists_eq_left', nI_clamp, nI_1, mj_vin, true_and, eq_self, mj_lt, mj_zz, mj_z0, mj_LE]
    refine ⟨fun q => absurd q (by omega), fun _ => ⟨fun q => ?_, fun q => ⟨fun q2 => ?_, fun q2 => ⟨fun q3 => ?_, fun q3 => ⟨fun q4 => ?_, fun q4 => ?_⟩⟩⟩⟩⟩
    · rw [if_neg (fun z => q z.1)] at i1
      exact i1
    · rw [if_neg (fun z => q2 z.2.1)] at i1
      exact i1
    · rw [if_pos ⟨q, q2, Or.inl q3⟩] at i1
      exact i1
    · rw [if_neg (fun z => by omega)] at i1
      exact i1
    · rw [if_pos ⟨q, q2, Or.inr (by omega)⟩] at i1
      exact i1
theorem rc_spin (hR : rf_R m A σ μ) (hB : sp_B σ) (hT : σ 1 0 ≤ 100) (hC : σ 0 0 ≤ 8) (hO : ∀ l, l < 17 → σ 25 l ≤ 100) (v w : Int32) : rc_I G my_M_spin mY_M_spin m A μ [.int v, .int w] (an_spin σ v.toInt w.toInt) σ := by
  have hQ := hR.self
  refine mj_of (by decide) rfl (by decide) (Nat.le_of_ble_eq_true rfl) rfl ⟨Nat.le_refl _, Nat.le_refl _⟩ ?_
  unfold an_spin
  refine bk_M_spin_0 ?_
  rw [mj_iLT v, mj_iLT v, mj_iLT w, mj_iLE w, hQ.si 0 rfl, nI_toInt (hB 0 0), show (0 : Int32).toInt = 0 from by decide, show (1 : Int32).toInt = 1 from by decide, show (16 : Int32).toInt = 16 from by decide]
  refine ⟨fun h => ?_, fun h => ⟨hQ.t, fun h2 => ⟨fun h3 => ?_, fun h3 => ⟨fun h4 => ?_, fun h4 => ?_⟩⟩, fun h2 => ?_⟩⟩
  · rw [if_neg (by omega)]
    exact ⟨⟨_, rfl, rfl, hQ⟩, rfl, rfl⟩
  · rw [if_pos (by omega), if_neg (by omega)]
    exact ⟨⟨_, rfl, rfl, hQ⟩, rfl, rfl⟩
  · obtain ⟨c, g1, rfl, g2⟩ := mj_nn (v := v) (by omega)
    obtain ⟨l, g3, rfl, g4⟩ := mj_nn (v := w) (by omega)
    have hl : l < 17 := by omega
    have ho := hO l hl
    have ho1 : σ 25 l < 101 := by omega
    have b3 := hB 3 (σ 25 l)
    rw [if_pos (by omega), if_pos (by omega), g2, g4, Int.toNat_natCast, Int.toNat_natCast]
    have go : ¬ (σ 25 l ≠ 0 ∧ σ 3 (σ 25 l) = c) → mj_J G mY_M_spin (fun v μ' => mj_XI (fun x μ' => x = (if σ 25 l ≠ 0 ∧ σ 3 (σ 25 l) = c then nI (σ 25 l) else -nI (sp_fstc σ c l (σ 1 0))) ∧ rf_Q m A σ μ μ') v μ' ∧ mj_nc μ' = mj_nc μ ∧ mj_ns μ' = mj_ns μ) (mj_nc μ) (mj_ns μ) 67 [(0, va_rf (some m)), (1, .int (nI c)), (2, .int (nI l)), (3, .int 0), (4, .int 1)] [] μ := by
      intro hq
      refine rl_spin (μ0 := μ) hB hT c l (by omega) hl hQ ?_ (σ 1 0) 0 (by omega)
      exact ⟨⟨_, rfl, by rw [if_neg hq], hQ⟩, rfl, rfl⟩
    refine ⟨_, hQ.r 25 (by decide), hQ.a0 25 (by decide), hQ.v 25 (by decide) hl, ?_⟩
    rw [nI_clamp (by omega), hQ.i 25 (by decide) hl, mj_le0 (by omega)]
    refine ⟨fun q => go (fun z => z.1 q), fun q => ⟨hQ.v 25 (by decide) hl, _, hQ.r 3 (by decide), hQ.a0 3 (by decide), hQ.v 3 (by decide) ho1, ?_⟩⟩
    rw [nI_clamp (by omega), hQ.i 3 (by decide) ho1, mj_zz b3 g1]
    refine ⟨fun q2 => go (fun z => q2 z.2), fun q2 => ⟨hQ.v 25 (by decide) hl, ?_⟩⟩
    exact ⟨⟨_, rfl, by rw [if_pos ⟨q, q2⟩], hQ⟩, rfl, rfl⟩
  · rw [if_pos (by omega), if_neg (by omega)]
    exact ⟨⟨_, rfl, rfl, hQ⟩, rfl, rfl⟩
  · rw [if_neg (by omega)]
    exact ⟨⟨_, rfl, rfl, hQ⟩, rfl, rfl⟩
theorem rl_run (n : Nat) (hn : n ≤ 50000) (hk : ∀ j, j < n → sp_mok (sp_runN σ j).1) (he : ∀ μ', rf_Q m A (sp_runN σ n).1 μ0 μ' → mj_nc μ' = mj_nc μ0 → mj_ns μ' = mj_ns μ0 → Ex (some (.int (nI (sp_runN σ n).2))) μ') :
    ∀ d j μ, j + d = n → rf_Q m A (sp_runN σ j).1 μ0 μ → mj_nc μ = mj_nc μ0 → mj_ns μ = mj_ns μ0 → mj_J G mY_M_run Ex N S 31 [(0, va_rf (some m)), (1, .long (lN n)), (3, .int (nI (sp_runN σ j).2)), (4, .long (lN j))] [] μ := by
  intro d
  induction d with
  | zero =>
    intro j μ hj hQ e1 e2
    have : j = n := by omega
    subst this
    exact bk_M_run_31 ⟨fun _ => he μ hQ e1 e2, fun q => absurd (by rw [mj_LE (by omega) (by omega)]; omega) q⟩
  | succ d ih =>
    intro j μ hj hQ e1 e2
    obtain ⟨b, P, m1, m2, m3, m4, m5, m6, m7, m8, m9, m10⟩ := hk j (by omega)
    refine bk_M_run_31 ⟨fun q => absurd q (by rw [mj_LE (by omega) (by omega)]; omega), fun _ => ⟨hQ.t, _, rc_micro hQ.1 m1 m2 m3 m4 m5 m6 m7 m8 m9 m10, fun x μ2 hP r1 r2 => ?_⟩⟩
    obtain ⟨hx, hP⟩ := hP
    subst hx
    refine bk_M_run_43 ?_
    rw [nI_add, lN_1]
    exact ih (j + 1) μ2 (by omega) (hQ.trans hP) (r1.trans e1) (r2.trans e2)
theorem rc_run {b : Nat} (hR : rf_R m A σ μ) (hb : sp_Bd b σ) (hb1 : 1000 ≤ b) (hb2 : b ≤ 2 ^ 31) (hV : sp_V σ) (v : Int64) (hk : ∀ j, 0 ≤ v.toInt → v.toInt + σ 43 0 ≤ 50000 → j < v.toInt.toNat → sp_mok (sp_runN (sp_ceil σ) j).1) :
    rc_I G my_M_run mY_M_run m A μ [.long v] (an_run σ v.toInt).1 (an_run σ v.toInt).2 := by
  have hQ := hR.self
  have b43 := hV.2.2.2.2.2.2.2.2.2
  refine mj_of (by decide) rfl (by decide) (Nat.le_of_ble_eq_true rfl) rfl ⟨Nat.le_refl _, Nat.le_refl _⟩ ?_
  unfold an_run
  refine bk_M_run_0 ?_
  rw [hQ.sl 43 rfl, show (50000 : Int64) = lN 50000 from rfl, lN_sub b43, mj_jLT, mj_jLE, pk_lT (by omega), show (0 : Int64).toInt = 0 from by decide]
  refine ⟨fun h => ?_, fun h => ⟨hQ.t, fun h2 => ⟨_, rc_ceil hR hb hb1 hb2 hV, fun μ2 hP r1 r2 => ?_⟩, fun h2 => ?_⟩⟩
  · rw [if_neg (by omega)]
    exact ⟨⟨_, rfl, rfl, hQ⟩, rfl, rfl⟩
  · obtain ⟨n, g1, rfl, g2⟩ := mj_LL (v := v) (by omega)
    rw [if_pos (by omega), g2, Int.toNat_natCast]
    rw [g2, Int.toNat_natCast] at hk
    refine bk_M_run_26 ?_
    exact rl_run (μ0 := μ) n (by omega) (fun j hj => hk j (by omega) (by omega) hj) (fun μ' h1 h2 h3 => ⟨⟨_, rfl, rfl, h1⟩, h2, h3⟩) n 0 μ2 (by omega) hP r1 r2
  · rw [if_neg (by omega)]
    exact ⟨⟨_, rfl, rfl, hQ⟩, rfl, rfl⟩
end RP
