def sp_endT (τ : ss_S) (t : Nat) : ss_S := if ss_u (ss_u τ 11 t 0) 19 t 0 13 t = 0 then ss_u (ss_u τ 11 t 0) 19 t 0 else sp_begin (ss_u (ss_u (ss_u τ 11 t 0) 19 t 0) 13 t (ss_u (ss_u τ 11 t 0) 19 t 0 13 t - 1)) t
theorem sp_ends_T (σ : ss_S) (t : Nat) : sp_ends σ t = sp_endT (sp_fr4 σ t) t := rfl
theorem sp_fr3_f (σ : ss_S) (t g j : Nat) (h : g ≠ 22 ∧ g ≠ 25 ∧ g ≠ 26 ∧ g ≠ 14 ∧ g ≠ 29) : sp_fr3 σ t g j = σ g j := by
  unfold sp_fr3 sp_fr2
  rw [ss_uf _ _ _ _ h.2.2.2.2, sp_freeL_f _ _ _ _ ⟨h.2.1, h.2.2.1, h.2.2.2.1⟩, sp_frR_f _ _ _ _ h.1]
theorem sp_start_f (σ : ss_S) (t g j : Nat) (h : g ≠ 11 ∧ g ≠ 12 ∧ g ≠ 14 ∧ g ≠ 15 ∧ g ≠ 16 ∧ g ≠ 17 ∧ g ≠ 21) : sp_start σ t g j = σ g j := by
  unfold sp_start
  rw [ss_uf _ _ _ _ h.2.2.2.2.1, ss_uf _ _ _ _ h.2.2.2.1, ss_uf _ _ _ _ h.2.2.1, ss_uf _ _ _ _ h.2.2.2.2.2.1, sp_ready_f _ _ _ _ ⟨h.1, h.2.1, h.2.2.2.2.2.2⟩]
theorem sp_endT_39 (τ : ss_S) (t : Nat) : sp_endT τ t 39 0 = τ 39 0 := by
  unfold sp_endT
  split
  · rfl
  · unfold sp_begin
    rw [if_pos (by show ss_u _ 11 t 0 11 t = 0; exact ss_us _ _ _ _)]
    rfl
section CE
variable {G : mj_G} {B : cl_B} {e t0 t1 b : Nat} {σ : ss_S} {c : cc_S} {μ μ0 : mj_MM} {Ex : Option Value → mj_MM → Prop} {N S : Nat}
theorem REP.stop (hP : REP B e 0 t1 σ c) (t : Nat) (ht : 1 ≤ t ∧ t ≤ σ 1 0) (h11 : σ 11 t = 2) (h19 : σ 19 t = 0) (h26 : σ 26 t = 0) (h15 : σ 15 t = 0) (h01 : t1 = 0 ∨ t1 = t) : REP B e 0 0 (ss_u σ 11 t 0) (cc_u (cc_u c 8 9 t 0) 1 4 (σ 3 t) 0) := by
  have hkt := hP.k ht
  have h3t := (hP.h2 t ht).2.2.2.2.2.2.2
  have hck := hP.co h3t
  obtain ⟨hb, h1, h2, ⟨h3a, h3b, h3c, h3d, h3e, h3f⟩, h4, h5, h6, ⟨h7a, h7b, h7c⟩, h8, ⟨h9a, h9b, h9c, h9d⟩, h10, h11', h12, h13, ⟨h14a, h14b, h14c⟩, h15', h16⟩ := hP
  refine ⟨hb, h1, h2, ⟨eq_u h3a t 0, h3b, h3c, h3d, h3e, h3f⟩, h4, h5.off t 0 ht h3t h11 h19 (by decide), h6, ⟨fun t' ht' hn hs' => ?_, fun t' ht' hs' => ?_, fun t' ht' q1 q2 q3 => ?_⟩, h8, ⟨h9a, h9b, h9c, fun t' ht' hs' => ?_⟩, h10, h11', h12, h13, ⟨h14a, h14b, fun t' ht' => ?_⟩, h15', (h16.u 8 9 t _ (Or.inl hkt)).u 1 4 _ _ (Or.inl hck)⟩
  · have q : t' ≠ t := fun q => by
      rw [q] at hs'
      exact hs' (ss_us _ _ _ _)
    simp [ss_u, q] at hs'
    exact h7a t' ht' (by omega) hs'
  · by_cases q : t' = t
    · subst q
      exact h7b t' ht' (Or.inr (Or.inr h15))
    · simp [ss_u, q] at hs'
      exact h7b t' ht' hs'
  · have q : t' ≠ t := fun q => by
      rw [q] at q1
      exact q1 (ss_us _ _ _ _)
    simp [ss_u, q] at q1
    exact h7c t' ht' q1 q2 q3
  · have q : t' ≠ t := fun q => by
      subst q
      exact hs' h26
    obtain ⟨g1, g2, g3⟩ := h9d t' ht' hs'
    refine ⟨g1, ?_, g3⟩
    rw [ss_ui _ _ _ _ q]
    exact g2
  · have q : t' ≠ t := fun q => by
      have : σ 1 0 < t' := ht'
      omega
    simp [ss_u, q]
    exact h14c t' ht'
theorem lc_end14 (hQ : cl_Q B c μ0 μ) (hP : REP B e 0 t1 σ c) (t : Nat) (ht : 1 ≤ t ∧ t ≤ σ 1 0) (h11 : σ 11 t = 2) (h19 : σ 19 t = 0) (h26 : σ 26 t = 0) (h15 : σ 15 t = 0) (h01 : t1 = 0 ∨ t1 = t) (hb : σ 21 0 + 1 < 2 ^ 31)
    (he : ∀ μ', CR B e 0 0 (sp_endT σ t) μ0 μ' → mj_nc μ' = mj_nc μ → mj_ns μ' = mj_ns μ → Ex none μ') : mj_J G mY_T_endTask Ex N S 14 [(0, va_rf (some (cD B 0 0))), (1, va_rf (some (cD B 8 t)))] [] μ := by
  have hx := hP.x
  have hkt := hP.k ht
  have h3t := (hP.h2 t ht).2.2.2.2.2.2.2
  have hck := hP.co h3t
  have e2 : c 8 2 t = σ 3 t + 1 := (hP.h2 t ht).2.2.1
  have e11 : c 8 11 t = σ 13 t := hP.h3.2.2.1 t ht
  have b11 := hQ.b 8 11 t (by decide)
  rw [e11] at b11
  refine bk_T_endTask_14 ?_
  simp (disch := first | decide | assumption | omega) only [hQ.t0, hQ.t1, hQ.t2, hQ.t3, hQ.t4, hQ.t5, hQ.t6, hQ.t7, hQ.t8, hQ.t9, hQ.ta0, hQ.ta1, hQ.ta2, hQ.ta3, hQ.tb, hQ.e0, hQ.e1, hQ.e2, hQ.e3, hQ.i0_8, hQ.i0_9, hQ.i0_10, hQ.i0_11, hQ.i0_12, hQ.r0_0, hQ.r0_1, hQ.r0_2, hQ.r0_3, hQ.r0_4, hQ.r0_5, hQ.r0_6, hQ.r0_7, hQ.i1_0, hQ.i1_5, hQ.i1_6, hQ.r1_1, hQ.r1_2, hQ.r1_3, hQ.r1_4, hQ.i2_0, hQ.i2_1, hQ.i2_2, hQ.r2_3, hQ.i3_1, hQ.i3_3, hQ.r3_0, hQ.r3_2, hQ.r4_0, hQ.r4_1, hQ.i5_1, hQ.i5_2, hQ.r5_0, hQ.i6_0, hQ.i6_1, hQ.r6_2, hQ.i7_0, hQ.r7_1, hQ.r7_2, hQ.i8_0, hQ.i8_1, hQ.i8_3, hQ.i8_4, hQ.i8_5, hQ.i8_8, hQ.i8_9, hQ.i8_10, hQ.i8_11, hQ.i8_12, hQ.i8_13, hQ.i8_14, hQ.i8_16, hQ.r8_2, hQ.r8_6, hQ.r8_7, hQ.r8_15, hQ.r8_17, hQ.r8_18, hQ.i9_1, hQ.r9_0, hQ.r9_2, Option.some.injEq, exists_eq_left', nI_clamp, nI_1, mj_vin, true_and, eq_self, e2, e11, cl_ref_s, mj_le0]
  have hQ2 := (hQ.pI 8 9 t 0 hkt (by decide) (by decide)).pR 1 4 (σ 3 t) 0 hck (by decide) (by decide) (Or.inl rfl)
  have hP2 := hP.stop t ht h11 h19 h26 h15 h01
  have e19 : ss_u (ss_u σ 11 t 0) 19 t 0 = ss_u σ 11 t 0 := ss_id h19
  unfold sp_endT at he
  rw [e19, show ss_u σ 11 t 0 13 t = σ 13 t from rfl] at he
  refine ⟨fun q => bk_T_endTask_49 (he _ ?_ rfl rfl), fun q => ?_⟩
  · rw [if_pos q]
    exact ⟨_, hQ2, hP2⟩
  · rw [if_neg q] at he
    have en : nI (σ 13 t) - 1 = nI (σ 13 t - 1) := by
      obtain ⟨z, hz⟩ : ∃ z, σ 13 t = z + 1 := ⟨σ 13 t - 1, by omega⟩
      rw [hz, nI_pred]
      rfl
    rw [en]
    have hQ3 := hQ2.pI 8 11 t (σ 13 t - 1) hkt (by decide) (by omega)
    have hP3 : REP B e 0 0 (ss_u (ss_u σ 11 t 0) 13 t (σ 13 t - 1)) (cc_u (cc_u (cc_u c 8 9 t 0) 1 4 (σ 3 t) 0) 8 11 t (σ 13 t - 1)) := by
      have z14 := hP.h14.2.1 t ht
      obtain ⟨hb, h1, h2, ⟨h3a, h3b, h3c, h3d, h3e, h3f⟩, h4, h5, h6, h7, h8, h9, h10, h11', h12, h13, ⟨h14a, h14b, h14c⟩, h15', h16⟩ := hP2
      refine ⟨hb, h1, h2, ⟨h3a, h3b, eq_u h3c t _, h3d, h3e, h3f⟩, h4, h5, h6, h7, h8, h9, h10, h11', h12, h13, ⟨h14a, fun t' ht' => ?_, fun t' ht' => ?_⟩, h15', h16.u 8 11 t _ (Or.inl hkt)⟩
      · show ss_u _ 13 t (σ 13 t - 1) 13 t' + 1 ≤ σ 4 t' ∧ σ 4 t' ≤ 100
        rw [ss_ue]
        by_cases q3 : t' = t
        · rw [if_pos q3, q3]
          omega
        · rw [if_neg q3]
          exact h14b t' ht'
      · have q3 : t' ≠ t := fun q => by
          have : σ 1 0 < t' := ht'
          omega
        have this := h14c t' ht'
        simp [ss_u, q3] at this ⊢
        exact this
    refine ⟨_, lc_start hQ3 hP3 t ht (show ss_u (ss_u σ 11 t 0) 13 t (σ 13 t - 1) 11 t = 0 from ss_us σ 11 t 0) (Or.inl rfl) hb, fun μ' h r1 r2 => bk_T_endTask_49 (he _ ?_ r1 r2)⟩
    unfold sp_begin
    rw [if_pos (show ss_u (ss_u σ 11 t 0) 13 t (σ 13 t - 1) 11 t = 0 from ss_us σ 11 t 0)]
    exact h
theorem lc_ends (hQ : cl_Q B c μ0 μ) (hP : REP B e 0 t1 σ c) (t : Nat) (ht : 1 ≤ t ∧ t ≤ σ 1 0) (h11 : σ 11 t = 2) (h19 : σ 19 t = 0) (h26 : σ 26 t = 0) (h15 : σ 15 t = 0) (h01 : t1 = 0 ∨ t1 = t) (hb : σ 21 0 + 1 < 2 ^ 31) (hB : σ 39 0 + 1 < 2 ^ 31) :
    lc_V G my_T_endTask mY_T_endTask B e 0 0 σ (sp_ends σ t) μ0 μ [va_rf (some (cD B 8 t))] := by
  have hx := hP.x
  have hkt := hP.k ht
  rw [sp_ends_T]
  refine mj_of (by decide) rfl (by decide) (Nat.le_of_ble_eq_true rfl) rfl ⟨Nat.le_add_right _ _, Nat.le_add_right _ _⟩ ?_
  refine bk_T_endTask_0 ⟨hQ.t0 hx, _, lc_freeAll hQ hP t ht h26 h01, fun x μ1 h r1 r2 => ?_⟩
  obtain ⟨hx1, c1, hQ1, hP1⟩ := h
  subst hx1
  have hf := fun g j h => sp_fr3_f σ t g j h
  have e4 : sp_fr4 σ t = if sp_held σ t ≠ 0 then sp_tell (sp_fr3 σ t) 3 t else sp_fr3 σ t := rfl
  have f26 : sp_fr3 σ t 26 t = 0 := by
    unfold sp_fr3 sp_fr2
    rw [ss_uf _ _ _ _ (by decide)]
    exact sp_freeL_26 _ _ (by rw [sp_frR_f _ _ _ _ (by decide)]; exact h26) 16
  rw [e4]
  generalize sp_fr3 σ t = τ at hP1 hf f26 ⊢
  have g1 := hf 1 0 (by decide)
  have g11 := hf 11 t (by decide)
  have g19 := hf 19 t (by decide)
  have g15 := hf 15 t (by decide)
  have g21 := hf 21 0 (by decide)
  have g39 := hf 39 0 (by decide)
  have ht1 : 1 ≤ t ∧ t ≤ τ 1 0 := by rw [g1]; exact ht
  have bh : sp_held σ t < 2 ^ 31 := by
    unfold sp_held
    split <;> decide
  refine bk_T_endTask_5 ?_
  rw [mj_z0 bh]
  refine ⟨fun q => ?_, fun q => ⟨hQ1.t0 hx, _, _, _, lc_tell hQ1 hP1 (by omega) 3 t (by decide) ht1, ?_, fun μ2 h r3 r4 => ?_⟩⟩
  · rw [if_neg (fun z => z q)]
    refine lc_end14 hQ1 hP1 t ht1 (by omega) (by omega) f26 (by omega) h01 (by omega) (fun μ' h z1 z2 => ⟨⟨rfl, h⟩, ?_, ?_⟩)
    · rw [tb_0 (σ := σ) (σ' := sp_endT τ t) (by rw [sp_endT_39]; exact g39)]
      exact z1.trans r1
    · rw [tb_0 (σ := σ) (σ' := sp_endT τ t) (by rw [sp_endT_39]; exact g39)]
      exact z2.trans r2
  · rw [if_pos q]
    have : tb τ (sp_tell τ 3 t) = tb σ (sp_endT (sp_tell τ 3 t) t) := by
      unfold tb
      rw [sp_endT_39, g39]
    rw [this, r1, r2]
    exact ⟨Nat.le_refl _, Nat.le_refl _⟩
  · obtain ⟨c2, hQ2, hP2⟩ := h
    have k1 : sp_tell τ 3 t 1 0 = τ 1 0 := sp_tell_f _ _ _ _ _ (by decide)
    have k11 : sp_tell τ 3 t 11 t = τ 11 t := sp_tell_f _ _ _ _ _ (by decide)
    have k19 : sp_tell τ 3 t 19 t = τ 19 t := sp_tell_f _ _ _ _ _ (by decide)
    have k15 : sp_tell τ 3 t 15 t = τ 15 t := sp_tell_f _ _ _ _ _ (by decide)
    have k26 : sp_tell τ 3 t 26 t = τ 26 t := sp_tell_f _ _ _ _ _ (by decide)
    have k21 : sp_tell τ 3 t 21 0 = τ 21 0 := sp_tell_f _ _ _ _ _ (by decide)
    have : tb τ (sp_tell τ 3 t) = tb σ (sp_endT (sp_tell τ 3 t) t) := by
      unfold tb
      rw [sp_endT_39, g39]
    rw [if_pos q]
    refine lc_end14 hQ2 hP2 t (by rw [k1]; exact ht1) (by omega) (by omega) (by omega) (by omega) h01 (by omega) (fun μ' h z1 z2 => ⟨⟨rfl, h⟩, ?_, ?_⟩)
    · rw [z1, r3, r1, this]
    · rw [z2, r4, r2, this]
theorem lc_taskOf (hQ : cl_Q B c μ0 μ) (hP : REP B e t0 t1 σ c) (v : Int32) : mj_M G my_T_taskOf mY_T_taskOf [va_rf (some (cD B 0 0)), .int v] (mj_nc μ) (mj_ns μ) μ (mj_XR (fun x μ' => x = (if 1 ≤ v.toInt ∧ v.toInt ≤ σ 1 0 then some (cD B 8 v.toInt.toNat) else none) ∧ μ' = μ)) := by
  have hx := hP.x
  have a0 : cL B 10 0 := hP.b.2.2.1.1
  have n0 : cN B 10 0 = 101 := hP.b.2.2.2.1.1
  have e0 : mj_r μ (cD B 0 0) 0 = some (cD B 10 0) := by rw [hQ.r0_0 hx, hP.h1.1.1]; rfl
  have en : mj_n μ (cD B 10 0) = 101 := by rw [(hQ.1.2.2.1 10 0 a0 (by decide)).1, n0]
  have hT := hP.v.1
  refine mj_of (by decide) rfl (by decide) (Nat.le_of_ble_eq_true rfl) rfl ⟨Nat.le_refl _, Nat.le_refl _⟩ ?_
  refine bk_T_taskOf_0 ?_
  rw [mj_iLT, show (1 : Int32).toInt = 1 from by decide]
  refine ⟨fun q => ⟨⟨_, rfl, ?_, rfl⟩, rfl, rfl⟩, fun q => ⟨hQ.t0 hx, _, e0, hQ.ta0 a0, ?_⟩⟩
  · rw [if_neg (by omega)]
  · obtain ⟨n, h1, rfl, h3⟩ := mj_nn (v := v) (by omega)
    rw [en, mj_lt h1 (by decide), nI_clamp h1, h3, Int.toNat_natCast]
    refine ⟨fun q2 => ⟨vp_in_nI q2 (by decide), ⟨_, rfl, ?_, rfl⟩, rfl, rfl⟩, fun q2 => ⟨⟨_, rfl, ?_, rfl⟩, rfl, rfl⟩⟩
    · rw [hQ.e0 a0 (by omega), hP.h1.2.2.1 n]
      by_cases z : 1 ≤ n ∧ n ≤ σ 1 0
      · rw [if_pos z, if_pos (by omega)]
        rfl
      · rw [if_neg z, if_neg (by omega)]
        rfl
    · rw [if_neg (by omega)]
theorem lc_resourceOf (hQ : cl_Q B c μ0 μ) (hP : REP B e t0 t1 σ c) (v : Int32) : mj_M G my_T_resourceOf mY_T_resourceOf [va_rf (some (cD B 0 0)), .int v] (mj_nc μ) (mj_ns μ) μ (mj_XR (fun x μ' => x = (if 1 ≤ v.toInt ∧ v.toInt ≤ 32 then some (cD B 7 v.toInt.toNat) else none) ∧ μ' = μ)) := by
  have hx := hP.x
  have a0 : cL B 10 2 := hP.b.2.2.1.2.2.1
  have n0 : cN B 10 2 = 33 := hP.b.2.2.2.1.2.2.1
  have e0 : mj_r μ (cD B 0 0) 2 = some (cD B 10 2) := by rw [hQ.r0_2 hx, hP.h1.1.2.2.1]; rfl
  have en : mj_n μ (cD B 10 2) = 33 := by rw [(hQ.1.2.2.1 10 2 a0 (by decide)).1, n0]
  refine mj_of (by decide) rfl (by decide) (Nat.le_of_ble_eq_true rfl) rfl ⟨Nat.le_refl _, Nat.le_refl _⟩ ?_
  refine bk_T_resourceOf_0 ?_
  rw [mj_iLT, show (1 : Int32).toInt = 1 from by decide]
  refine ⟨fun q => ⟨⟨_, rfl, ?_, rfl⟩, rfl, rfl⟩, fun q => ⟨hQ.t0 hx, _, e0, hQ.ta2 a0, ?_⟩⟩
  · rw [if_neg (by omega)]
  · obtain ⟨n, h1, rfl, h3⟩ := mj_nn (v := v) (by omega)
    rw [en, mj_lt h1 (by decide), nI_clamp h1, h3, Int.toNat_natCast]
    refine ⟨fun q2 => ⟨vp_in_nI q2 (by decide), ⟨_, rfl, ?_, rfl⟩, rfl, rfl⟩, fun q2 => ⟨⟨_, rfl, ?_, rfl⟩, rfl, rfl⟩⟩
    · rw [hQ.e2 a0 (by omega), hP.h1.2.2.2.2.1 n q2, if_pos (by omega)]
      rfl
    · rw [if_neg (by omega)]
theorem lc_lockOf (hQ : cl_Q B c μ0 μ) (hP : REP B e t0 t1 σ c) (v : Int32) : mj_M G my_T_lockOf mY_T_lockOf [va_rf (some (cD B 0 0)), .int v] (mj_nc μ) (mj_ns μ) μ (mj_XR (fun x μ' => x = (if 1 ≤ v.toInt ∧ v.toInt ≤ 16 then some (cD B 4 v.toInt.toNat) else none) ∧ μ' = μ)) := by
  have hx := hP.x
  have a0 : cL B 10 3 := hP.b.2.2.1.2.2.2
  have n0 : cN B 10 3 = 17 := hP.b.2.2.2.1.2.2.2
  have e0 : mj_r μ (cD B 0 0) 3 = some (cD B 10 3) := by rw [hQ.r0_3 hx, hP.h1.1.2.2.2.1]; rfl
  have en : mj_n μ (cD B 10 3) = 17 := by rw [(hQ.1.2.2.1 10 3 a0 (by decide)).1, n0]
  refine mj_of (by decide) rfl (by decide) (Nat.le_of_ble_eq_true rfl) rfl ⟨Nat.le_refl _, Nat.le_refl _⟩ ?_
  refine bk_T_lockOf_0 ?_
  rw [mj_iLT, show (1 : Int32).toInt = 1 from by decide]
  refine ⟨fun q => ⟨⟨_, rfl, ?_, rfl⟩, rfl, rfl⟩, fun q => ⟨hQ.t0 hx, _, e0, hQ.ta3 a0, ?_⟩⟩
  · rw [if_neg (by omega)]
  · obtain ⟨n, h1, rfl, h3⟩ := mj_nn (v := v) (by omega)
    rw [en, mj_lt h1 (by decide), nI_clamp h1, h3, Int.toNat_natCast]
    refine ⟨fun q2 => ⟨vp_in_nI q2 (by decide), ⟨_, rfl, ?_, rfl⟩, rfl, rfl⟩, fun q2 => ⟨⟨_, rfl, ?_, rfl⟩, rfl, rfl⟩⟩
    · rw [hQ.e3 a0 (by omega), hP.h1.2.2.2.2.2 n q2, if_pos (by omega)]
      rfl
    · rw [if_neg (by omega)]
theorem lc_coreOf (hQ : cl_Q B c μ0 μ) (hP : REP B e t0 t1 σ c) (v : Int32) : mj_M G my_T_coreOf mY_T_coreOf [va_rf (some (cD B 0 0)), .int v] (mj_nc μ) (mj_ns μ) μ (mj_XR (fun x μ' => x = (if 0 ≤ v.toInt ∧ v.toInt < σ 0 0 then some (cD B 1 v.toInt.toNat) else none) ∧ μ' = μ)) := by
  have hx := hP.x
  have a0 : cL B 10 1 := hP.b.2.2.1.2.1
  have n0 : cN B 10 1 = σ 0 0 := hP.b.2.2.2.1.2.1
  have e0 : mj_r μ (cD B 0 0) 1 = some (cD B 10 1) := by rw [hQ.r0_1 hx, hP.h1.1.2.1]; rfl
  have en : mj_n μ (cD B 10 1) = σ 0 0 := by rw [(hQ.1.2.2.1 10 1 a0 (by decide)).1, n0]
  have hC := hP.v.2.1.2
  refine mj_of (by decide) rfl (by decide) (Nat.le_of_ble_eq_true rfl) rfl ⟨Nat.le_refl _, Nat.le_refl _⟩ ?_
  refine bk_T_coreOf_0 ?_
  rw [mj_iLT, show (0 : Int32).toInt = 0 from by decide]
  refine ⟨fun q => ⟨⟨_, rfl, ?_, rfl⟩, rfl, rfl⟩, fun q => ⟨hQ.t0 hx, _, e0, hQ.ta1 a0, ?_⟩⟩
  · rw [if_neg (by omega)]
  · obtain ⟨n, h1, rfl, h3⟩ := mj_nn (v := v) (by omega)
    rw [en, mj_lt h1 (by omega), nI_clamp h1, h3, Int.toNat_natCast]
    refine ⟨fun q2 => ⟨vp_in_nI q2 (by omega), ⟨_, rfl, ?_, rfl⟩, rfl, rfl⟩, fun q2 => ⟨⟨_, rfl, ?_, rfl⟩, rfl, rfl⟩⟩
    · rw [hQ.e1 a0 (by omega), hP.h1.2.2.2.1 n q2, if_pos (by omega)]
      rfl
    · rw [if_neg (by omega)]
end CE
