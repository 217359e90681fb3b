def cs_ready (c : cc_S) (t : Nat) : cc_S := cc_u (cc_u (cc_u c 0 11 0 (c 0 11 0 + 1)) 8 10 t (c 0 11 0 + 1)) 8 9 t 1
def sp_start (σ : ss_S) (t : Nat) : ss_S := ss_u (ss_u (ss_u (ss_u (sp_ready σ t) 17 t 0) 14 t 0) 15 t 2) 16 t 1
section CB
variable {G : mj_G} {B : cl_B} {e t0 t1 b : Nat} {σ : ss_S} {c : cc_S} {μ μ0 : mj_MM} {Ex : Option Value → mj_MM → Prop} {N S : Nat}
theorem lc_makeReady (hQ : cl_Q B c μ0 μ) (hx : cL B 0 0) (t : Nat) (hl : cL B 8 t) (hb : c 0 11 0 + 1 < 2 ^ 31) : mj_M G my_T_makeReady mY_T_makeReady [va_rf (some (cD B 0 0)), va_rf (some (cD B 8 t))] (mj_nc μ) (mj_ns μ) μ (mj_XV (fun μ' => cl_Q B (cs_ready c t) μ0 μ')) := by
  refine mj_of (by decide) rfl (by decide) (Nat.le_of_ble_eq_true rfl) rfl ⟨Nat.le_refl _, Nat.le_refl _⟩ ?_
  refine bk_T_makeReady_0 ?_
  simp (disch := first | decide | assumption | omega) only [hQ.t0, hQ.t1, hQ.t2, hQ.t3, hQ.t4, hQ.t5, hQ.t6, hQ.t7, hQ.t8, hQ.t9, hQ.ta0, hQ.ta1, hQ.ta2, hQ.ta3, hQ.tb, hQ.e0, hQ.e1, hQ.e2, hQ.e3, hQ.i0_8, hQ.i0_9, hQ.i0_10, hQ.i0_11, hQ.i0_12, hQ.r0_0, hQ.r0_1, hQ.r0_2, hQ.r0_3, hQ.r0_4, hQ.r0_5, hQ.r0_6, hQ.r0_7, hQ.i1_0, hQ.i1_5, hQ.i1_6, hQ.r1_1, hQ.r1_2, hQ.r1_3, hQ.r1_4, hQ.i2_0, hQ.i2_1, hQ.i2_2, hQ.r2_3, hQ.i3_1, hQ.i3_3, hQ.r3_0, hQ.r3_2, hQ.r4_0, hQ.r4_1, hQ.i5_1, hQ.i5_2, hQ.r5_0, hQ.i6_0, hQ.i6_1, hQ.r6_2, hQ.i7_0, hQ.r7_1, hQ.r7_2, hQ.i8_0, hQ.i8_1, hQ.i8_3, hQ.i8_4, hQ.i8_5, hQ.i8_8, hQ.i8_9, hQ.i8_10, hQ.i8_11, hQ.i8_12, hQ.i8_13, hQ.i8_14, hQ.i8_16, hQ.r8_2, hQ.r8_6, hQ.r8_7, hQ.r8_15, hQ.r8_17, hQ.r8_18, hQ.i9_1, hQ.r9_0, hQ.r9_2, Option.some.injEq, exists_eq_left', nI_clamp, nI_1, mj_vin, true_and, eq_self]
  exact ⟨⟨rfl, ((hQ.pI 0 11 0 _ hx (by decide) hb).pI 8 10 t _ hl (by decide) hb).pI 8 9 t 1 hl (by decide) (by decide)⟩, (by first | exact ⟨rfl, rfl⟩ | trivial)⟩
theorem r5.st (h : r5 σ c) (t v : Nat) (h0 : σ 11 t ≠ 2) (hv : v ≠ 2) : r5 (ss_u σ 11 t v) c := by
  obtain ⟨h5a, h5b, h5c, h5d, h5e⟩ := h
  refine ⟨fun t' ht' => ?_, h5b, h5c, fun t' ht' hs => ?_, fun t' ht' hs => ?_⟩
  · rw [ss_ue]
    show _ ↔ c 1 4 (σ 3 t') = t' + 1
    rw [← h5a t' ht']
    by_cases q : t' = t
    · rw [if_pos q, q]
      exact ⟨fun z => absurd z hv, fun z => absurd z h0⟩
    · rw [if_neg q]
  · rw [ss_ue] at hs
    by_cases q : t' = t
    · rw [if_pos q] at hs
      exact absurd hs hv
    · rw [if_neg q] at hs
      exact h5d t' ht' hs
  · rw [ss_ue] at hs
    by_cases q : t' = t
    · show σ 19 t' = 0
      rw [q]
      rw [q] at ht'
      exact h5e t ht' h0
    · rw [if_neg q] at hs
      exact h5e t' ht' hs
theorem sp_V.ev (h : sp_V σ) (t v : Nat) (hv : v < 65536) : sp_V (ss_u σ 17 t v) := by
  refine ⟨h.1, h.2.1, h.2.2.1, h.2.2.2.1, h.2.2.2.2.1, h.2.2.2.2.2.1, h.2.2.2.2.2.2.1, h.2.2.2.2.2.2.2.1, fun i => ?_, h.2.2.2.2.2.2.2.2.2⟩
  rw [ss_ue]
  split
  · exact hv
  · exact h.2.2.2.2.2.2.2.2.1 i
theorem REP.start (hP : REP B e t0 t1 σ c) (t : Nat) (ht : 1 ≤ t ∧ t ≤ σ 1 0) (hs : σ 11 t = 0) (h01 : t1 = 0 ∨ t1 = t) : REP B e t0 0 (sp_start σ t) (cs_ready (cc_u (cc_u c 8 12 t 0) 8 7 t (1000 + t + 1)) t) := by
  have hx := hP.x
  have hl := hP.k ht
  obtain ⟨hb, h1, h2, ⟨h3a, h3b, h3c, h3d, h3e, h3f⟩, h4, h5, h6, ⟨h7a, h7b, h7c⟩, h8, ⟨h9a, h9b, h9c, h9d⟩, h10, h11, h12, h13, ⟨h14a, h14b, h14c⟩, h15, h16⟩ := hP
  have e21 : c 0 11 0 = σ 21 0 := h1.2.1.2.2.2.1
  unfold cs_ready
  rw [show cc_u (cc_u c 8 12 t 0) 8 7 t (1000 + t + 1) 0 11 0 = σ 21 0 from e21]
  unfold sp_start sp_ready
  refine ⟨hb, ⟨h1.1, ⟨h1.2.1.1, h1.2.1.2.1, h1.2.1.2.2.1, rfl, h1.2.1.2.2.2.2⟩, h1.2.2⟩, h2, ⟨eq_u h3a t 1, eq_u h3b t _, h3c, eq_u h3d t 0, h3e, h3f⟩, h4, h5.st t 1 (by omega) (by decide), h6, ⟨fun t' ht' hn hs' => ?_, fun t' ht' hs' => ?_, fun t' ht' hs' hs2 hs3 => ?_⟩, h8, ⟨h9a, h9b, h9c, fun t' ht' hs' => ?_⟩, h10, h11, h12, h13, ⟨h14a.ev t 0 (by decide), h14b, fun t' ht' => ?_⟩, h15, ((((h16.u 8 12 t _ (Or.inl hl)).u 8 7 t _ (Or.inl hl)).u 0 11 0 _ (Or.inl hx)).u 8 10 t _ (Or.inl hl)).u 8 9 t _ (Or.inl hl)⟩
  · by_cases q : t' = t
    · subst q
      simp [ss_u, cc_u]
    · simp [ss_u, cc_u, q] at hs' ⊢
      exact h7a t' ht' (by omega) hs'
  · by_cases q : t' = t
    · subst q
      simp [ss_u, cc_u] at hs' ⊢
      exact h7b t' ht' (Or.inl hs)
    · simp [ss_u, cc_u, q] at hs' ⊢
      exact h7b t' ht' hs'
  · by_cases q : t' = t
    · subst q
      simp [ss_u] at hs2
    · simp [ss_u, cc_u, q] at hs' hs2 hs3 ⊢
      exact h7c t' ht' hs' hs2 hs3
  · have q : t' ≠ t := fun q => by
      subst q
      exact (h9d t' ht' hs').2.1 hs
    simp [ss_u, q] at hs' ⊢
    exact h9d t' ht' hs'
  · have q : t' ≠ t := fun q => by
      have : σ 1 0 < t' := ht'
      omega
    simp [ss_u, q]
    exact h14c t' ht'
theorem lc_start (hQ : cl_Q B c μ0 μ) (hP : REP B e t0 t1 σ c) (t : Nat) (ht : 1 ≤ t ∧ t ≤ σ 1 0) (hs : σ 11 t = 0) (h01 : t1 = 0 ∨ t1 = t) (hb : σ 21 0 + 1 < 2 ^ 31) : lc_W G my_T_startTask mY_T_startTask B e t0 0 (sp_start σ t) μ0 μ [va_rf (some (cD B 8 t))] := by
  have hx := hP.x
  have hl := hP.k ht
  have hp := hP.ps ht
  have hT := hP.v.1
  have e6 : c 8 6 t = 1000 + t + 1 := (hP.h2 t ht).2.2.2.2.2.2.1
  have e21 : c 0 11 0 = σ 21 0 := hP.h1.2.1.2.2.2.1
  refine mj_of (by decide) rfl (by decide) (Nat.le_of_ble_eq_true rfl) rfl ⟨Nat.le_refl _, Nat.le_refl _⟩ ?_
  refine bk_T_startTask_0 ?_
  simp (disch := first | decide | assumption | omega) only [hQ.t0, hQ.t1, hQ.t2, hQ.t3, hQ.t4, hQ.t5, hQ.t6, hQ.t7, hQ.t8, hQ.t9, hQ.ta0, hQ.ta1, hQ.ta2, hQ.ta3, hQ.tb, hQ.e0, hQ.e1, hQ.e2, hQ.e3, hQ.i0_8, hQ.i0_9, hQ.i0_10, hQ.i0_11, hQ.i0_12, hQ.r0_0, hQ.r0_1, hQ.r0_2, hQ.r0_3, hQ.r0_4, hQ.r0_5, hQ.r0_6, hQ.r0_7, hQ.i1_0, hQ.i1_5, hQ.i1_6, hQ.r1_1, hQ.r1_2, hQ.r1_3, hQ.r1_4, hQ.i2_0, hQ.i2_1, hQ.i2_2, hQ.r2_3, hQ.i3_1, hQ.i3_3, hQ.r3_0, hQ.r3_2, hQ.r4_0, hQ.r4_1, hQ.i5_1, hQ.i5_2, hQ.r5_0, hQ.i6_0, hQ.i6_1, hQ.r6_2, hQ.i7_0, hQ.r7_1, hQ.r7_2, hQ.i8_0, hQ.i8_1, hQ.i8_3, hQ.i8_4, hQ.i8_5, hQ.i8_8, hQ.i8_9, hQ.i8_10, hQ.i8_11, hQ.i8_12, hQ.i8_13, hQ.i8_14, hQ.i8_16, hQ.r8_2, hQ.r8_6, hQ.r8_7, hQ.r8_15, hQ.r8_17, hQ.r8_18, hQ.i9_1, hQ.r9_0, hQ.r9_2, Option.some.injEq, exists_eq_left', nI_clamp, nI_1, mj_vin, true_and, eq_self, e6, cl_ref_s]
  have hQ2 := (hQ.pI 8 12 t 0 hl (by decide) (by decide)).pR 8 7 t (1000 + t + 1) hl (by decide) (by omega) (Or.inr hp)
  exact ⟨_, lc_makeReady hQ2 hx t hl (by show c 0 11 0 + 1 < 2 ^ 31; omega), fun μ' h1 r1 r2 => bk_T_startTask_18 ⟨⟨rfl, _, h1, hP.start t ht hs h01⟩, r1, r2⟩⟩
theorem lc_activate (hQ : cl_Q B c μ0 μ) (hP : REP B e t0 0 σ c) (t : Nat) (ht : 1 ≤ t ∧ t ≤ σ 1 0) (hb : σ 21 0 + 1 < 2 ^ 31) (hB : σ 39 0 + 1 < 2 ^ 31) : lc_V G my_T_activateTask mY_T_activateTask B e t0 0 σ (sp_begin σ t) μ0 μ [va_rf (some (cD B 8 t))] := by
  have hx := hP.x
  have hl := hP.k ht
  have e9 : c 8 9 t = σ 11 t := hP.h3.1 t ht
  have e3 : c 8 3 t = σ 4 t := (hP.h2 t ht).2.2.2.1
  have e11 : c 8 11 t = σ 13 t := hP.h3.2.2.1 t ht
  have b9 := hQ.b 8 9 t (by decide)
  have b3 := hQ.b 8 3 t (by decide)
  have b11 := hQ.b 8 11 t (by decide)
  have h14 := (hP.h14.2.1 t ht)
  rw [e9] at b9
  refine mj_of (by decide) rfl (by decide) (Nat.le_of_ble_eq_true rfl) rfl ⟨Nat.le_add_right _ _, Nat.le_add_right _ _⟩ ?_
  refine bk_T_activateTask_0 ?_
  simp (disch := first | decide | assumption | omega) only [hQ.t0, hQ.t1, hQ.t2, hQ.t3, hQ.t4, hQ.t5, hQ.t6, hQ.t7, hQ.t8, hQ.t9, hQ.ta0, hQ.ta1, hQ.ta2, hQ.ta3, hQ.tb, hQ.e0, hQ.e1, hQ.e2, hQ.e3, hQ.i0_8, hQ.i0_9, hQ.i0_10, hQ.i0_11, hQ.i0_12, hQ.r0_0, hQ.r0_1, hQ.r0_2, hQ.r0_3, hQ.r0_4, hQ.r0_5, hQ.r0_6, hQ.r0_7, hQ.i1_0, hQ.i1_5, hQ.i1_6, hQ.r1_1, hQ.r1_2, hQ.r1_3, hQ.r1_4, hQ.i2_0, hQ.i2_1, hQ.i2_2, hQ.r2_3, hQ.i3_1, hQ.i3_3, hQ.r3_0, hQ.r3_2, hQ.r4_0, hQ.r4_1, hQ.i5_1, hQ.i5_2, hQ.r5_0, hQ.i6_0, hQ.i6_1, hQ.r6_2, hQ.i7_0, hQ.r7_1, hQ.r7_2, hQ.i8_0, hQ.i8_1, hQ.i8_3, hQ.i8_4, hQ.i8_5, hQ.i8_8, hQ.i8_9, hQ.i8_10, hQ.i8_11, hQ.i8_12, hQ.i8_13, hQ.i8_14, hQ.i8_16, hQ.r8_2, hQ.r8_6, hQ.r8_7, hQ.r8_15, hQ.r8_17, hQ.r8_18, hQ.i9_1, hQ.r9_0, hQ.r9_2, Option.some.injEq, exists_eq_left', nI_clamp, nI_1, mj_vin, true_and, eq_self, e9, e3, e11, mj_z0, mj_1p, mj_le]
  unfold sp_begin
  refine ⟨fun q => ⟨fun q2 => ?_, fun q2 => ?_⟩, fun q => ?_⟩
  · rw [if_neg q, if_neg (by omega)]
    exact ⟨_, _, _, lc_tell hQ hP hB 1 t (by decide) ht, ⟨Nat.le_refl _, Nat.le_refl _⟩, fun μ' h1 r1 r2 => bk_T_activateTask_47 ⟨⟨rfl, h1⟩, r1, r2⟩⟩
  · rw [if_neg q, if_pos (by omega), tb_0 (σ := σ) (σ' := ss_u σ 13 t (σ 13 t + 1)) rfl]
    refine bk_T_activateTask_47 ⟨⟨rfl, _, hQ.pI 8 11 t (σ 13 t + 1) hl (by decide) (by omega), ?_⟩, rfl, rfl⟩
    obtain ⟨hb, h1, h2, ⟨h3a, h3b, h3c, h3d, h3e, h3f⟩, h4, h5, h6, h7, h8, h9, h10, h11, h12, h13, ⟨h14a, h14b, h14c⟩, h15, h16⟩ := hP
    refine ⟨hb, h1, h2, ⟨h3a, h3b, eq_u h3c t _, h3d, h3e, h3f⟩, h4, h5, h6, h7, h8, h9, h10, h11, h12, h13, ⟨h14a, fun t' ht' => ?_, fun t' ht' => ?_⟩, h15, h16.u 8 11 t _ (Or.inl hl)⟩
    · by_cases q3 : t' = t
      · subst q3
        simp [ss_u]
        omega
      · simp [ss_u, q3]
        exact h14b t' ht'
    · have q3 : t' ≠ t := fun q => by
        have : σ 1 0 < t' := ht'
        omega
      simp [ss_u, q3]
      exact h14c t' ht'
  · rw [if_pos q, tb_0 (σ := σ) (σ' := ss_u (ss_u (ss_u (ss_u (sp_ready σ t) 17 t 0) 14 t 0) 15 t 2) 16 t 1) rfl]
    exact ⟨_, lc_start hQ hP t ht q (Or.inl rfl) hb, fun μ' h1 r1 r2 => bk_T_activateTask_12 (bk_T_activateTask_47 ⟨⟨rfl, h1⟩, r1, r2⟩)⟩
theorem lc_setEvents (hQ : cl_Q B c μ0 μ) (hP : REP B e t0 t1 σ c) (t x : Nat) (ht : 1 ≤ t ∧ t ≤ σ 1 0) (hx6 : x < 65536) (hb : σ 21 0 + 1 < 2 ^ 31) : lc_W G my_T_setEvents mY_T_setEvents B e t0 t1 (sp_set σ t x) μ0 μ [va_rf (some (cD B 8 t)), .int (nI x)] := by
  have hx := hP.x
  have hl := hP.k ht
  have e9 : c 8 9 t = σ 11 t := hP.h3.1 t ht
  have e12 : c 8 12 t = σ 17 t := hP.h3.2.2.2.1 t ht
  have e13 : c 8 13 t = σ 18 t := hP.h3.2.2.2.2.1 t ht
  have e21 : c 0 11 0 = σ 21 0 := hP.h1.2.1.2.2.2.1
  have b9 := hQ.b 8 9 t (by decide)
  have b13 := hQ.b 8 13 t (by decide)
  rw [e9] at b9
  rw [e13] at b13
  have h17 := hP.v.2.2.2.2.2.2.2.2.1 t
  have hor : (σ 17 t ||| x) < 2 ^ 16 := Nat.or_lt_two_pow h17 hx6
  have b3 : (σ 17 t ||| x) &&& σ 18 t < 2 ^ 31 := Nat.lt_of_le_of_lt Nat.and_le_right b13
  refine mj_of (by decide) rfl (by decide) (Nat.le_of_ble_eq_true rfl) rfl ⟨Nat.le_refl _, Nat.le_refl _⟩ ?_
  refine bk_T_setEvents_0 ?_
  simp (disch := first | decide | assumption | omega) only [hQ.t0, hQ.t1, hQ.t2, hQ.t3, hQ.t4, hQ.t5, hQ.t6, hQ.t7, hQ.t8, hQ.t9, hQ.ta0, hQ.ta1, hQ.ta2, hQ.ta3, hQ.tb, hQ.e0, hQ.e1, hQ.e2, hQ.e3, hQ.i0_8, hQ.i0_9, hQ.i0_10, hQ.i0_11, hQ.i0_12, hQ.r0_0, hQ.r0_1, hQ.r0_2, hQ.r0_3, hQ.r0_4, hQ.r0_5, hQ.r0_6, hQ.r0_7, hQ.i1_0, hQ.i1_5, hQ.i1_6, hQ.r1_1, hQ.r1_2, hQ.r1_3, hQ.r1_4, hQ.i2_0, hQ.i2_1, hQ.i2_2, hQ.r2_3, hQ.i3_1, hQ.i3_3, hQ.r3_0, hQ.r3_2, hQ.r4_0, hQ.r4_1, hQ.i5_1, hQ.i5_2, hQ.r5_0, hQ.i6_0, hQ.i6_1, hQ.r6_2, hQ.i7_0, hQ.r7_1, hQ.r7_2, hQ.i8_0, hQ.i8_1, hQ.i8_3, hQ.i8_4, hQ.i8_5, hQ.i8_8, hQ.i8_9, hQ.i8_10, hQ.i8_11, hQ.i8_12, hQ.i8_13, hQ.i8_14, hQ.i8_16, hQ.r8_2, hQ.r8_6, hQ.r8_7, hQ.r8_15, hQ.r8_17, hQ.r8_18, hQ.i9_1, hQ.r9_0, hQ.r9_2, Option.some.injEq, exists_eq_left', nI_clamp, nI_1, mj_vin, true_and, eq_self, e9, e12, e13, mj_z3, nI_or, nI_and, mj_z0]
  have hQ2 := hQ.pI 8 12 t (σ 17 t ||| x) hl (by decide) (by omega)
  have hP2 : REP B e t0 t1 (ss_u σ 17 t (σ 17 t ||| x)) (cc_u c 8 12 t (σ 17 t ||| x)) := by
    obtain ⟨hb, h1, h2, ⟨h3a, h3b, h3c, h3d, h3e, h3f⟩, h4, h5, h6, h7, h8, h9, h10, h11, h12, h13, ⟨h14a, h14b, h14c⟩, h15, h16⟩ := hP
    refine ⟨hb, h1, h2, ⟨h3a, h3b, h3c, eq_u h3d t _, h3e, h3f⟩, h4, h5, h6, h7, h8, h9, h10, h11, h12, h13, ⟨h14a.ev t _ hor, h14b, fun t' ht' => ?_⟩, h15, h16.u 8 12 t _ (Or.inl hl)⟩
    have q3 : t' ≠ t := fun q => by
      have : σ 1 0 < t' := ht'
      omega
    simp [ss_u, q3]
    exact h14c t' ht'
  unfold sp_set
  refine ⟨fun q => ?_, fun q => ⟨fun q2 => ?_, fun q2 => ?_⟩⟩
  · rw [if_neg (fun z => q z.1)]
    exact bk_T_setEvents_35 ⟨⟨rfl, _, hQ2, hP2⟩, rfl, rfl⟩
  · rw [if_neg (fun z => z.2 q2)]
    exact bk_T_setEvents_35 ⟨⟨rfl, _, hQ2, hP2⟩, rfl, rfl⟩
  · rw [if_pos ⟨q, q2⟩]
    refine ⟨_, lc_makeReady hQ2 hx t hl (by show c 0 11 0 + 1 < 2 ^ 31; omega), fun μ' h1 r1 r2 => bk_T_setEvents_35 ⟨⟨rfl, _, h1, ?_⟩, r1, r2⟩⟩
    unfold cs_ready
    rw [show cc_u c 8 12 t (σ 17 t ||| x) 0 11 0 = σ 21 0 from e21]
    unfold sp_ready
    generalize hσ : ss_u σ 17 t (σ 17 t ||| x) = τ at hP2 ⊢
    have q11 : τ 11 t = 3 := by rw [← hσ]; exact q
    have q1 : τ 1 0 = σ 1 0 := by rw [← hσ]; rfl
    have q21 : τ 21 0 = σ 21 0 := by rw [← hσ]; rfl
    rw [q21]
    rw [← q1] at ht
    clear hσ hP hQ
    generalize cc_u c 8 12 t (σ 17 t ||| x) = d at *
    obtain ⟨hb, h1, h2, ⟨h3a, h3b, h3c, h3d, h3e, h3f⟩, h4, h5, h6, ⟨h7a, h7b, h7c⟩, h8, ⟨h9a, h9b, h9c, h9d⟩, h10, h11, h12, h13, ⟨h14a, h14b, h14c⟩, h15, h16⟩ := hP2
    refine ⟨hb, ⟨h1.1, ⟨h1.2.1.1, h1.2.1.2.1, h1.2.1.2.2.1, rfl, h1.2.1.2.2.2.2⟩, h1.2.2⟩, h2, ⟨eq_u h3a t 1, eq_u h3b t _, h3c, h3d, h3e, h3f⟩, h4, h5.st t 1 (by omega) (by decide), h6, ⟨fun t' ht' hn hs' => ?_, fun t' ht' hs' => ?_, fun t' ht' hs' hs2 hs3 => ?_⟩, h8, ⟨h9a, h9b, h9c, fun t' ht' hs' => ?_⟩, h10, h11, h12, h13, ⟨h14a, h14b, fun t' ht' => ?_⟩, h15, (((h16.u 0 11 0 _ (Or.inl hx)).u 8 10 t _ (Or.inl hl)).u 8 9 t _ (Or.inl hl))⟩
    · by_cases q : t' = t
      · subst q
        exact h7a t' ht' hn (by omega)
      · simp [ss_u, cc_u, q] at hs' ⊢
        exact h7a t' ht' hn hs'
    · by_cases q : t' = t
      · subst q
        simp [ss_u, cc_u] at hs' ⊢
        exact h7b t' ht' (Or.inr hs')
      · simp [ss_u, cc_u, q] at hs' ⊢
        exact h7b t' ht' hs'
    · by_cases q : t' = t
      · subst q
        exact h7c t' ht' (by omega) hs2 hs3
      · simp [ss_u, cc_u, q] at hs' hs2 hs3 ⊢
        exact h7c t' ht' hs' hs2 hs3
    · have := h9d t' ht' hs'
      by_cases q : t' = t
      · subst q
        exact ⟨this.1, by simp [ss_u], this.2.2⟩
      · simp [ss_u, q] at hs' ⊢
        exact this
    · have q : t' ≠ t := fun q => by
        have : τ 1 0 < t' := ht'
        omega
      simp [ss_u, q]
      exact h14c t' ht'
end CB
