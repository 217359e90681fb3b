section CV
variable {G : mj_G} {B : cl_B} {e t0 t1 b : Nat} {σ : ss_S} {c : cc_S} {μ μ0 : mj_MM} {Ex : Option Value → mj_MM → Prop} {N S : Nat}
theorem lg_add_9 (c : cc_S) (x p i : Nat) : lg_add c 0 x 9 p i = c 9 p i ∧ lg_add c 0 x 0 7 0 = c 0 7 0 := by
  unfold lg_add
  split
  · exact ⟨rfl, rfl⟩
  · exact ⟨rfl, rfl⟩
theorem lc_tellX (hQ : cl_Q B c μ0 μ) (hP : REP B e t0 0 σ c) (hB : σ 39 0 + 1 < 2 ^ 31) (k t : Nat) (hk : k < 2 ^ 20) (ht : 1 ≤ t ∧ t ≤ σ 1 0) : mj_M G my_T_tellCode mY_T_tellCode (va_rf (some (cD B 0 0)) :: [.int (nI k), va_rf (some (cD B 8 t))]) (mj_nc μ + tb σ (sp_tell σ k t)) (mj_ns μ + 512 * tb σ (sp_tell σ k t)) μ (mj_XV (fun μ' => ∃ c', cl_Q B c' μ0 μ' ∧ REP B e t0 0 (sp_tell σ k t) c' ∧ (∀ p i, c' 9 p i = c 9 p i) ∧ c' 0 7 0 = c 0 7 0)) := by
  have hT := hP.v.1
  have hx := hP.x
  have hl := hP.k ht
  have hg : cL B 5 0 := hP.lg (by omega)
  have e5 : c 0 5 0 = 1 := hP.h1.1.2.2.2.2.2.1
  have e12 : c 0 12 0 = σ 43 0 := hP.h1.2.1.2.2.2.2
  have e0 : c 8 0 t = t := (hP.h2 t ht).1
  have hnow : σ 43 0 ≤ 50000 := hP.v.2.2.2.2.2.2.2.2.2
  have c2 : c 5 2 0 = σ 39 0 := hP.h12.2.1
  have en : tb σ (sp_tell σ k t) = lg_n c 0 := by
    unfold tb lg_n
    rw [sp_tell_39, bm_s, hP.h12.1, c2]
    omega
  refine mj_of (by decide) rfl (by decide) (Nat.le_of_ble_eq_true rfl) rfl ⟨Nat.le_add_right _ _, Nat.le_add_right _ _⟩ ?_
  refine bk_T_tellCode_0 ?_
  simp (disch := first | decide | assumption | omega) only [hQ.t0, hQ.t1, hQ.t2, hQ.t3, hQ.t4, hQ.t5, hQ.t6, hQ.t7, hQ.t8, hQ.t9, hQ.ta0, hQ.ta1, hQ.ta2, hQ.ta3, hQ.tb, hQ.e0, hQ.e1, hQ.e2, hQ.e3, hQ.i0_8, hQ.i0_9, hQ.i0_10, hQ.i0_11, hQ.i0_12, hQ.r0_0, hQ.r0_1, hQ.r0_2, hQ.r0_3, hQ.r0_4, hQ.r0_5, hQ.r0_6, hQ.r0_7, hQ.i1_0, hQ.i1_5, hQ.i1_6, hQ.r1_1, hQ.r1_2, hQ.r1_3, hQ.r1_4, hQ.i2_0, hQ.i2_1, hQ.i2_2, hQ.r2_3, hQ.i3_1, hQ.i3_3, hQ.r3_0, hQ.r3_2, hQ.r4_0, hQ.r4_1, hQ.i5_1, hQ.i5_2, hQ.r5_0, hQ.i6_0, hQ.i6_1, hQ.r6_2, hQ.i7_0, hQ.r7_1, hQ.r7_2, hQ.i8_0, hQ.i8_1, hQ.i8_3, hQ.i8_4, hQ.i8_5, hQ.i8_8, hQ.i8_9, hQ.i8_10, hQ.i8_11, hQ.i8_12, hQ.i8_13, hQ.i8_14, hQ.i8_16, hQ.r8_2, hQ.r8_6, hQ.r8_7, hQ.r8_15, hQ.r8_17, hQ.r8_18, hQ.i9_1, hQ.r9_0, hQ.r9_2, Option.some.injEq, exists_eq_left', nI_clamp, nI_1, mj_vin, true_and, eq_self, e5, e12, e0, cl_ref_s]
  refine ⟨_, _, _, lc_add hQ 0 k t (σ 43 0) hg hk (by omega) (by omega) (by omega), by rw [en]; exact ⟨Nat.le_refl _, Nat.le_refl _⟩, fun μ' hP' r1 r2 => bk_T_tellCode_16 ⟨⟨rfl, _, hP', hP.tell k t hk (by omega), fun p i => (lg_add_9 c _ p i).1, (lg_add_9 c _ 0 0).2⟩, by rw [en]; exact r1, by rw [en]; exact r2⟩⟩
theorem lc_startX (hQ : cl_Q B c μ0 μ) (hP : REP B e t0 0 σ c) (t : Nat) (ht : 1 ≤ t ∧ t ≤ σ 1 0) (hs : σ 11 t = 0) (hb : σ 21 0 + 1 < 2 ^ 31) : mj_M G my_T_startTask mY_T_startTask (va_rf (some (cD B 0 0)) :: [va_rf (some (cD B 8 t))]) (mj_nc μ) (mj_ns μ) μ (mj_XV (fun μ' => ∃ c', cl_Q B c' μ0 μ' ∧ REP B e t0 0 (sp_start σ t) c' ∧ (∀ p i, c' 9 p i = c 9 p i) ∧ c' 0 7 0 = c 0 7 0)) := by
  have hx := hP.x
  have hl := hP.k ht
  have hp := hP.ps ht
  have hT := hP.v.1
  have e6 : c 8 6 t = 1000 + t + 1 := (hP.h2 t ht).2.2.2.2.2.2.1
  have e21 : c 0 11 0 = σ 21 0 := hP.h1.2.1.2.2.2.1
  refine mj_of (by decide) rfl (by decide) (Nat.le_of_ble_eq_true rfl) rfl ⟨Nat.le_refl _, Nat.le_refl _⟩ ?_
  refine bk_T_startTask_0 ?_
  simp (disch := first | decide | assumption | omega) only [hQ.t0, hQ.t1, hQ.t2, hQ.t3, hQ.t4, hQ.t5, hQ.t6, hQ.t7, hQ.t8, hQ.t9, hQ.ta0, hQ.ta1, hQ.ta2, hQ.ta3, hQ.tb, hQ.e0, hQ.e1, hQ.e2, hQ.e3, hQ.i0_8, hQ.i0_9, hQ.i0_10, hQ.i0_11, hQ.i0_12, hQ.r0_0, hQ.r0_1, hQ.r0_2, hQ.r0_3, hQ.r0_4, hQ.r0_5, hQ.r0_6, hQ.r0_7, hQ.i1_0, hQ.i1_5, hQ.i1_6, hQ.r1_1, hQ.r1_2, hQ.r1_3, hQ.r1_4, hQ.i2_0, hQ.i2_1, hQ.i2_2, hQ.r2_3, hQ.i3_1, hQ.i3_3, hQ.r3_0, hQ.r3_2, hQ.r4_0, hQ.r4_1, hQ.i5_1, hQ.i5_2, hQ.r5_0, hQ.i6_0, hQ.i6_1, hQ.r6_2, hQ.i7_0, hQ.r7_1, hQ.r7_2, hQ.i8_0, hQ.i8_1, hQ.i8_3, hQ.i8_4, hQ.i8_5, hQ.i8_8, hQ.i8_9, hQ.i8_10, hQ.i8_11, hQ.i8_12, hQ.i8_13, hQ.i8_14, hQ.i8_16, hQ.r8_2, hQ.r8_6, hQ.r8_7, hQ.r8_15, hQ.r8_17, hQ.r8_18, hQ.i9_1, hQ.r9_0, hQ.r9_2, Option.some.injEq, exists_eq_left', nI_clamp, nI_1, mj_vin, true_and, eq_self, e6, cl_ref_s]
  have hQ2 := (hQ.pI 8 12 t 0 hl (by decide) (by decide)).pR 8 7 t (1000 + t + 1) hl (by decide) (by omega) (Or.inr hp)
  exact ⟨_, lc_makeReady hQ2 hx t hl (by show c 0 11 0 + 1 < 2 ^ 31; omega), fun μ' h1 r1 r2 => bk_T_startTask_18 ⟨⟨rfl, _, h1, hP.start t ht hs (Or.inl rfl), fun _ _ => rfl, rfl⟩, r1, r2⟩⟩
theorem lc_activateX (hQ : cl_Q B c μ0 μ) (hP : REP B e t0 0 σ c) (t : Nat) (ht : 1 ≤ t ∧ t ≤ σ 1 0) (hb : σ 21 0 + 1 < 2 ^ 31) (hB : σ 39 0 + 1 < 2 ^ 31) : mj_M G my_T_activateTask mY_T_activateTask (va_rf (some (cD B 0 0)) :: [va_rf (some (cD B 8 t))]) (mj_nc μ + tb σ (sp_begin σ t)) (mj_ns μ + 512 * tb σ (sp_begin σ t)) μ (mj_XV (fun μ' => ∃ c', cl_Q B c' μ0 μ' ∧ REP B e t0 0 (sp_begin σ t) c' ∧ (∀ p i, c' 9 p i = c 9 p i) ∧ c' 0 7 0 = c 0 7 0)) := by
  have hx := hP.x
  have hl := hP.k ht
  have e9 : c 8 9 t = σ 11 t := hP.h3.1 t ht
  have e3 : c 8 3 t = σ 4 t := (hP.h2 t ht).2.2.2.1
  have e11 : c 8 11 t = σ 13 t := hP.h3.2.2.1 t ht
  have b9 := hQ.b 8 9 t (by decide)
  have b3 := hQ.b 8 3 t (by decide)
  have b11 := hQ.b 8 11 t (by decide)
  have h14 := (hP.h14.2.1 t ht)
  rw [e9] at b9
  refine mj_of (by decide) rfl (by decide) (Nat.le_of_ble_eq_true rfl) rfl ⟨Nat.le_add_right _ _, Nat.le_add_right _ _⟩ ?_
  refine bk_T_activateTask_0 ?_
  simp (disch := first | decide | assumption | omega) only [hQ.t0, hQ.t1, hQ.t2, hQ.t3, hQ.t4, hQ.t5, hQ.t6, hQ.t7, hQ.t8, hQ.t9, hQ.ta0, hQ.ta1, hQ.ta2, hQ.ta3, hQ.tb, hQ.e0, hQ.e1, hQ.e2, hQ.e3, hQ.i0_8, hQ.i0_9, hQ.i0_10, hQ.i0_11, hQ.i0_12, hQ.r0_0, hQ.r0_1, hQ.r0_2, hQ.r0_3, hQ.r0_4, hQ.r0_5, hQ.r0_6, hQ.r0_7, hQ.i1_0, hQ.i1_5, hQ.i1_6, hQ.r1_1, hQ.r1_2, hQ.r1_3, hQ.r1_4, hQ.i2_0, hQ.i2_1, hQ.i2_2, hQ.r2_3, hQ.i3_1, hQ.i3_3, hQ.r3_0, hQ.r3_2, hQ.r4_0, hQ.r4_1, hQ.i5_1, hQ.i5_2, hQ.r5_0, hQ.i6_0, hQ.i6_1, hQ.r6_2, hQ.i7_0, hQ.r7_1, hQ.r7_2, hQ.i8_0, hQ.i8_1, hQ.i8_3, hQ.i8_4, hQ.i8_5, hQ.i8_8, hQ.i8_9, hQ.i8_10, hQ.i8_11, hQ.i8_12, hQ.i8_13, hQ.i8_14, hQ.i8_16, hQ.r8_2, hQ.r8_6, hQ.r8_7, hQ.r8_15, hQ.r8_17, hQ.r8_18, hQ.i9_1, hQ.r9_0, hQ.r9_2, Option.some.injEq, exists_eq_left', nI_clamp, nI_1, mj_vin, true_and, eq_self, e9, e3, e11, mj_z0, mj_1p, mj_le]
  unfold sp_begin
  refine ⟨fun q => ⟨fun q2 => ?_, fun q2 => ?_⟩, fun q => ?_⟩
  · rw [if_neg q, if_neg (by omega)]
    exact ⟨_, _, _, lc_tellX hQ hP hB 1 t (by decide) ht, ⟨Nat.le_refl _, Nat.le_refl _⟩, fun μ' h1 r1 r2 => bk_T_activateTask_47 ⟨⟨rfl, h1⟩, r1, r2⟩⟩
  · rw [if_neg q, if_pos (by omega), tb_0 (σ := σ) (σ' := ss_u σ 13 t (σ 13 t + 1)) rfl]
    refine bk_T_activateTask_47 ⟨⟨rfl, _, hQ.pI 8 11 t (σ 13 t + 1) hl (by decide) (by omega), ?_, fun _ _ => rfl, rfl⟩, rfl, rfl⟩
    obtain ⟨hb, h1, h2, ⟨h3a, h3b, h3c, h3d, h3e, h3f⟩, h4, h5, h6, h7, h8, h9, h10, h11, h12, h13, ⟨h14a, h14b, h14c⟩, h15, h16⟩ := hP
    refine ⟨hb, h1, h2, ⟨h3a, h3b, eq_u h3c t _, h3d, h3e, h3f⟩, h4, h5, h6, h7, h8, h9, h10, h11, h12, h13, ⟨h14a, fun t' ht' => ?_, fun t' ht' => ?_⟩, h15, h16.u 8 11 t _ (Or.inl hl)⟩
    · by_cases q3 : t' = t
      · subst q3
        simp [ss_u]
        omega
      · simp [ss_u, q3]
        exact h14b t' ht'
    · have q3 : t' ≠ t := fun q => by
        have : σ 1 0 < t' := ht'
        omega
      simp [ss_u, q3]
      exact h14c t' ht'
  · rw [if_pos q, tb_0 (σ := σ) (σ' := ss_u (ss_u (ss_u (ss_u (sp_ready σ t) 17 t 0) 14 t 0) 15 t 2) 16 t 1) rfl]
    exact ⟨_, lc_startX hQ hP t ht q hb, fun μ' h1 r1 r2 => bk_T_activateTask_12 (bk_T_activateTask_47 ⟨⟨rfl, h1⟩, r1, r2⟩)⟩
end CV
