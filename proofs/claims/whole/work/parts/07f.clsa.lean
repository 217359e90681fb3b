/-- blocks that the codes told so far fill -/
def bm (x : Nat) : Nat := lg_b (if x ≤ 1000 then x else 1000)
theorem bm_s (x : Nat) : bm (x + 1) = bm x + (if x < 1000 ∧ x % 512 = 0 then 1 else 0) := by
  unfold bm lg_b
  by_cases h : x < 1000
  · rw [if_pos (by omega), if_pos (by omega)]
    by_cases h2 : x % 512 = 0
    · rw [if_pos ⟨h, h2⟩]
      omega
    · rw [if_neg (fun z => h2 z.2)]
      omega
  · rw [if_neg (by omega), if_neg (fun z : x < 1000 ∧ x % 512 = 0 => h z.1)]
    split <;> omega
theorem bm_le {x y : Nat} (h : x ≤ y) : bm x ≤ bm y := by
  unfold bm lg_b
  split <;> split <;> omega
/-- blocks made on the way from σ to σ' -/
def tb (σ σ' : ss_S) : Nat := bm (σ' 39 0) - bm (σ 39 0)
theorem tb_0 {σ σ' : ss_S} (h : σ' 39 0 = σ 39 0) : tb σ σ' = 0 := by
  unfold tb
  rw [h]
  omega
theorem tb_t {σ σ1 σ' : ss_S} (h1 : σ 39 0 ≤ σ1 39 0) (h2 : σ1 39 0 ≤ σ' 39 0) : tb σ σ1 + tb σ1 σ' = tb σ σ' := by
  have a1 := bm_le h1
  have a2 := bm_le h2
  unfold tb
  omega
theorem tb_le {σ σ1 σ' : ss_S} (h2 : σ1 39 0 ≤ σ' 39 0) : tb σ σ1 ≤ tb σ σ' := by
  have a2 := bm_le h2
  unfold tb
  omega
/-- a method of the class that tells at most codes -/
abbrev lc_V (G : mj_G) (y : MethodName) (Y : mj_Y) (B : cl_B) (e t0 t1 : Nat) (σ σ' : ss_S) (μ0 μ : mj_MM) (as : List Value) : Prop := mj_M G y Y (va_rf (some (cD B 0 0)) :: as) (mj_nc μ + tb σ σ') (mj_ns μ + 512 * tb σ σ') μ (mj_XV (fun μ' => CR B e t0 t1 σ' μ0 μ'))
/-- one that makes nothing -/
abbrev lc_W (G : mj_G) (y : MethodName) (Y : mj_Y) (B : cl_B) (e t0 t1 : Nat) (σ' : ss_S) (μ0 μ : mj_MM) (as : List Value) : Prop := mj_M G y Y (va_rf (some (cD B 0 0)) :: as) (mj_nc μ) (mj_ns μ) μ (mj_XV (fun μ' => CR B e t0 t1 σ' μ0 μ'))
theorem sp_tell_39 (σ : ss_S) (k t : Nat) : sp_tell σ k t 39 0 = σ 39 0 + 1 := by
  unfold sp_tell
  split <;> exact ss_us _ _ _ _
section CA
variable {G : mj_G} {B : cl_B} {e t0 t1 b : Nat} {σ : ss_S} {c : cc_S} {μ μ0 : mj_MM} {Ex : Option Value → mj_MM → Prop} {N S : Nat}
theorem REP.tell (hP : REP B e t0 t1 σ c) (k t : Nat) (hk : k < 2 ^ 20) (ht : t < 2 ^ 20) : REP B e t0 t1 (sp_tell σ k t) (lg_add c 0 (k * 2 ^ 40 + t * 2 ^ 20 + σ 43 0)) := by
  have hg : cL B 5 0 := hP.lg (by omega)
  obtain ⟨hb, h1, h2, h3, h4, h5, h6, h7, h8, h9, h10, h11, h12, h13, h14, h15, h16⟩ := hP
  have c1 : c 5 1 0 = 1000 := h12.1
  have c2 : c 5 2 0 = σ 39 0 := h12.2.1
  have hnow : σ 43 0 ≤ 50000 := h14.1.2.2.2.2.2.2.2.2.2
  have hx : k * 2 ^ 40 + t * 2 ^ 20 + σ 43 0 = k * 2 ^ 40 + t * 2 ^ 20 + σ 43 0 := rfl
  generalize hX : k * 2 ^ 40 + t * 2 ^ 20 + σ 43 0 = X at *
  unfold sp_tell lg_add
  rw [c1, c2]
  by_cases h : σ 39 0 < 1000
  · rw [if_pos h, if_pos h]
    refine ⟨hb, h1, h2, h3, h4, h5, h6, h7, h8, h9, h10, h11, ⟨c1, rfl, fun i hi hi2 => ?_⟩, h13, h14, h15, (h16.u 20 0 _ _ (Or.inr (by decide))).u 5 2 0 _ (Or.inl hg)⟩
    show cc_u c 20 0 (σ 39 0) X 20 0 i = ss_u σ 40 (σ 39 0) k 40 i * 2 ^ 40 + ss_u (ss_u σ 40 (σ 39 0) k) 41 (σ 39 0) t 41 i * 2 ^ 20 + ss_u (ss_u (ss_u σ 40 (σ 39 0) k) 41 (σ 39 0) t) 42 (σ 39 0) (σ 43 0) 42 i ∧ ss_u σ 40 (σ 39 0) k 40 i < 2 ^ 20 ∧ ss_u (ss_u σ 40 (σ 39 0) k) 41 (σ 39 0) t 41 i < 2 ^ 20 ∧ ss_u (ss_u (ss_u σ 40 (σ 39 0) k) 41 (σ 39 0) t) 42 (σ 39 0) (σ 43 0) 42 i < 2 ^ 20
    rw [cc_ue, ss_ue, ss_ue, ss_ue]
    have hi3 : i < σ 39 0 + 1 := hi
    by_cases hi4 : i = σ 39 0
    · rw [if_pos hi4, if_pos hi4, if_pos hi4, if_pos hi4]
      exact ⟨hX.symm, hk, ht, by omega⟩
    · rw [if_neg hi4, if_neg hi4, if_neg hi4, if_neg hi4]
      exact h12.2.2 i (by omega) hi2
  · rw [if_neg h, if_neg h]
    refine ⟨hb, h1, h2, h3, h4, h5, h6, h7, h8, h9, h10, h11, ⟨c1, rfl, fun i hi hi2 => ?_⟩, h13, h14, h15, h16.u 5 2 0 _ (Or.inl hg)⟩
    exact h12.2.2 i (by omega) hi2
theorem lc_tell (hQ : cl_Q B c μ0 μ) (hP : REP B e t0 t1 σ c) (hB : σ 39 0 + 1 < 2 ^ 31) (k t : Nat) (hk : k < 2 ^ 20) (ht : 1 ≤ t ∧ t ≤ σ 1 0) : lc_V G my_T_tellCode mY_T_tellCode B e t0 t1 σ (sp_tell σ k t) μ0 μ [.int (nI k), va_rf (some (cD B 8 t))] := by
  have hT := hP.v.1
  have hx := hP.x
  have hl := hP.k ht
  have hg : cL B 5 0 := hP.lg (by omega)
  have e5 : c 0 5 0 = 1 := hP.h1.1.2.2.2.2.2.1
  have e12 : c 0 12 0 = σ 43 0 := hP.h1.2.1.2.2.2.2
  have e0 : c 8 0 t = t := (hP.h2 t ht).1
  have hnow : σ 43 0 ≤ 50000 := hP.v.2.2.2.2.2.2.2.2.2
  have c2 : c 5 2 0 = σ 39 0 := hP.h12.2.1
  have en : tb σ (sp_tell σ k t) = lg_n c 0 := by
    unfold tb lg_n
    rw [sp_tell_39, bm_s, hP.h12.1, c2]
    omega
  refine mj_of (by decide) rfl (by decide) (Nat.le_of_ble_eq_true rfl) rfl ⟨Nat.le_add_right _ _, Nat.le_add_right _ _⟩ ?_
  refine bk_T_tellCode_0 ?_
  simp (disch := first | decide | assumption | omega) only [hQ.t0, hQ.t1, hQ.t2, hQ.t3, hQ.t4, hQ.t5, hQ.t6, hQ.t7, hQ.t8, hQ.t9, hQ.ta0, hQ.ta1, hQ.ta2, hQ.ta3, hQ.tb, hQ.e0, hQ.e1, hQ.e2, hQ.e3, hQ.i0_8, hQ.i0_9, hQ.i0_10, hQ.i0_11, hQ.i0_12, hQ.r0_0, hQ.r0_1, hQ.r0_2, hQ.r0_3, hQ.r0_4, hQ.r0_5, hQ.r0_6, hQ.r0_7, hQ.i1_0, hQ.i1_5, hQ.i1_6, hQ.r1_1, hQ.r1_2, hQ.r1_3, hQ.r1_4, hQ.i2_0, hQ.i2_1, hQ.i2_2, hQ.r2_3, hQ.i3_1, hQ.i3_3, hQ.r3_0, hQ.r3_2, hQ.r4_0, hQ.r4_1, hQ.i5_1, hQ.i5_2, hQ.r5_0, hQ.i6_0, hQ.i6_1, hQ.r6_2, hQ.i7_0, hQ.r7_1, hQ.r7_2, hQ.i8_0, hQ.i8_1, hQ.i8_3, hQ.i8_4, hQ.i8_5, hQ.i8_8, hQ.i8_9, hQ.i8_10, hQ.i8_11, hQ.i8_12, hQ.i8_13, hQ.i8_14, hQ.i8_16, hQ.r8_2, hQ.r8_6, hQ.r8_7, hQ.r8_15, hQ.r8_17, hQ.r8_18, hQ.i9_1, hQ.r9_0, hQ.r9_2, Option.some.injEq, exists_eq_left', nI_clamp, nI_1, mj_vin, true_and, eq_self, e5, e12, e0, cl_ref_s]
  refine ⟨_, _, _, lc_add hQ 0 k t (σ 43 0) hg hk (by omega) (by omega) (by omega), by rw [en]; exact ⟨Nat.le_refl _, Nat.le_refl _⟩, fun μ' hP' r1 r2 => bk_T_tellCode_16 ⟨⟨rfl, _, hP', hP.tell k t hk (by omega)⟩, by rw [en]; exact r1, by rw [en]; exact r2⟩⟩
end CA
