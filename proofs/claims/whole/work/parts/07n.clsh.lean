theorem nI_subN {a b : Nat} (h : b ≤ a) : nI a - nI b = nI (a - b) := by
  obtain ⟨d, rfl⟩ : ∃ d, a = d + b := ⟨a - b, by omega⟩
  rw [← nI_add, Nat.add_sub_cancel]
  exact Int32.add_sub_cancel _ _
theorem sp_act_do {σ : ss_S} {t k x : Nat} (h2 : k ≠ 2) (h11 : k ≠ 11) (h8 : ¬ (k = 8 ∧ σ 25 x ≠ 0 ∧ σ 25 x ≠ t)) : sp_act σ t k x = sp_do (ss_u σ 14 t (σ 14 t + 1)) t k x := by
  unfold sp_act
  rw [if_neg h2, if_neg h11, if_neg h8]
theorem sp_act_2 (σ : ss_S) (t x : Nat) : sp_act σ t 2 x = sp_chain σ t x := by
  unfold sp_act
  rw [if_pos rfl]
theorem sp_act_11 (σ : ss_S) (t x : Nat) : sp_act σ t 11 x = sp_ends σ t := by
  unfold sp_act
  rw [if_neg (by decide), if_pos rfl]
section DO
variable (σ : ss_S) (t x : Nat)
theorem sp_do_1 : sp_do σ t 1 x = (if 1 ≤ x ∧ x ≤ σ 1 0 then sp_begin σ x else sp_tell σ 8 t) := by
  unfold sp_do
  rw [if_pos rfl]
theorem sp_do_3 : sp_do σ t 3 x = (if σ 5 t = 0 then sp_tell σ 2 t else if sp_holds σ t ≠ 0 then sp_tell σ 4 t else if (σ 17 t &&& x) = 0 then ss_u (ss_u σ 11 t 3) 18 t x else σ) := by
  unfold sp_do
  rw [if_neg (by decide), if_pos rfl]
theorem sp_do_4 : sp_do σ t 4 x = (if 1 ≤ x / 65536 ∧ x / 65536 ≤ σ 1 0 then (if σ 5 (x / 65536) ≠ 0 ∧ σ 11 (x / 65536) ≠ 0 then sp_set σ (x / 65536) (x % 65536) else sp_tell σ 5 t) else sp_tell σ 8 t) := by
  unfold sp_do
  rw [if_neg (by decide), if_neg (by decide), if_pos rfl]
theorem sp_do_5 : sp_do σ t 5 x = (if σ 5 t = 0 then sp_tell (ss_u σ 17 t (σ 17 t)) 2 t else ss_u σ 17 t (ev_clr (σ 17 t) x)) := by
  unfold sp_do
  rw [if_neg (by decide), if_neg (by decide), if_neg (by decide), if_pos rfl]
theorem sp_do_6 : sp_do σ t 6 x = (if σ 22 x = 0 then ss_u (ss_u (ss_u σ 28 0 (σ 28 0 + 1)) 22 x t) 23 x (σ 28 0 + 1) else sp_tell σ 4 t) := by
  unfold sp_do
  rw [if_neg (by decide), if_neg (by decide), if_neg (by decide), if_neg (by decide), if_pos rfl]
theorem sp_do_7 : sp_do σ t 7 x = sp_code (ss_u σ 22 x (if sp_fc σ t x 32 = 0 then 0 else σ 22 x)) t (sp_fc σ t x 32) := by
  unfold sp_do
  rw [if_neg (by decide), if_neg (by decide), if_neg (by decide), if_neg (by decide), if_neg (by decide), if_pos rfl]
theorem sp_do_8 : sp_do σ t 8 x = sp_code (ss_u σ 25 x t) t (if σ 25 x = t then 6 else 0) := by
  unfold sp_do
  rw [if_neg (by decide), if_neg (by decide), if_neg (by decide), if_neg (by decide), if_neg (by decide), if_neg (by decide), if_pos rfl]
theorem sp_do_9 : sp_do σ t 9 x = (if σ 25 x = t then sp_unlock σ x else sp_tell σ 6 t) := by
  unfold sp_do
  rw [if_neg (by decide), if_neg (by decide), if_neg (by decide), if_neg (by decide), if_neg (by decide), if_neg (by decide), if_neg (by decide), if_pos rfl]
theorem sp_do_10 : sp_do σ t 10 x = ss_u σ 19 t 1 := by
  unfold sp_do
  rw [if_neg (by decide), if_neg (by decide), if_neg (by decide), if_neg (by decide), if_neg (by decide), if_neg (by decide), if_neg (by decide), if_neg (by decide), if_pos rfl]
theorem sp_do_12 : sp_do σ t 12 x = (if σ 3 t ≠ 0 ∨ 0 < σ 29 0 then sp_tell σ 7 t else ss_u (ss_u (ss_u σ 29 0 t) 30 0 (σ 43 0 + x)) 31 0 0) := by
  unfold sp_do
  rw [if_neg (by decide), if_neg (by decide), if_neg (by decide), if_neg (by decide), if_neg (by decide), if_neg (by decide), if_neg (by decide), if_neg (by decide), if_neg (by decide), if_pos rfl]
theorem sp_do_13 : sp_do σ t 13 x = (if σ 3 t ≠ 0 ∨ σ 29 0 = 0 then sp_tell (ss_u σ 29 0 (σ 29 0)) 7 t else ss_u σ 29 0 0) := by
  unfold sp_do
  rw [if_neg (by decide), if_neg (by decide), if_neg (by decide), if_neg (by decide), if_neg (by decide), if_neg (by decide), if_neg (by decide), if_neg (by decide), if_neg (by decide), if_neg (by decide)]
end DO
section CH
variable {G : mj_G} {B : cl_B} {e t0 t1 b : Nat} {σ : ss_S} {c : cc_S} {μ μ0 : mj_MM} {Ex : Option Value → mj_MM → Prop} {N S : Nat}
theorem lc_handOnX (hQ : cl_Q B c μ0 μ) (hP : REP B e t0 t1 σ c) (l : Nat) (hl : 1 ≤ l ∧ l ≤ 16) (ho : σ 25 l = t0) (h0 : σ 26 t0 = 0) (h01 : t1 = 0 ∨ t1 = t0) : mj_M G my_L_handOn mY_L_handOn [va_rf (some (cD B 4 l))] (mj_nc μ) (mj_ns μ) μ (mj_XV (fun μ' => ∃ c', cl_Q B c' μ0 μ' ∧ REP B e t0 t1 (sp_unlock σ l) c' ∧ c' 8 16 t0 = c 8 16 t0)) := by
  have hll := hP.lo (l := l) (by omega)
  obtain ⟨L, q1, q2, q3⟩ := hP.h9.2.2.1.2.1 l hl.1 hl.2
  have hf := sp_fst_head q2 q3
  refine mj_of (by decide) rfl (by decide) (Nat.le_of_ble_eq_true rfl) rfl ⟨Nat.le_refl _, Nat.le_refl _⟩ ?_
  refine bk_L_handOn_0 ?_
  cases L with
  | nil =>
    have e1 : c 4 1 l = 0 := q1
    simp (disch := first | decide | assumption | omega) only [hQ.t0, hQ.t1, hQ.t2, hQ.t3, hQ.t4, hQ.t5, hQ.t6, hQ.t7, hQ.t8, hQ.t9, hQ.ta0, hQ.ta1, hQ.ta2, hQ.ta3, hQ.tb, hQ.e0, hQ.e1, hQ.e2, hQ.e3, hQ.i0_8, hQ.i0_9, hQ.i0_10, hQ.i0_11, hQ.i0_12, hQ.r0_0, hQ.r0_1, hQ.r0_2, hQ.r0_3, hQ.r0_4, hQ.r0_5, hQ.r0_6, hQ.r0_7, hQ.i1_0, hQ.i1_5, hQ.i1_6, hQ.r1_1, hQ.r1_2, hQ.r1_3, hQ.r1_4, hQ.i2_0, hQ.i2_1, hQ.i2_2, hQ.r2_3, hQ.i3_1, hQ.i3_3, hQ.r3_0, hQ.r3_2, hQ.r4_0, hQ.r4_1, hQ.i5_1, hQ.i5_2, hQ.r5_0, hQ.i6_0, hQ.i6_1, hQ.r6_2, hQ.i7_0, hQ.r7_1, hQ.r7_2, hQ.i8_0, hQ.i8_1, hQ.i8_3, hQ.i8_4, hQ.i8_5, hQ.i8_8, hQ.i8_9, hQ.i8_10, hQ.i8_11, hQ.i8_12, hQ.i8_13, hQ.i8_14, hQ.i8_16, hQ.r8_2, hQ.r8_6, hQ.r8_7, hQ.r8_15, hQ.r8_17, hQ.r8_18, hQ.i9_1, hQ.r9_0, hQ.r9_2, Option.some.injEq, exists_eq_left', nI_clamp, nI_1, mj_vin, true_and, eq_self, e1, cl_ref_0]
    refine ⟨fun _ => ?_, fun b z => by cases z⟩
    unfold sp_unlock
    rw [hf, if_pos (by rfl)]
    refine ⟨⟨rfl, _, hQ.pR 4 0 l 0 hll (by decide) (by decide) (Or.inl rfl), hP.un0 l hl ho (fun t ht z => ?_), rfl⟩, (by first | exact ⟨rfl, rfl⟩ | trivial)⟩
    have := (q2 t).mpr ⟨ht, z⟩
    cases this
  | cons s L =>
    have e1 : c 4 1 l = s + 1 := q1.1
    have hs := (q2 s).mp (List.mem_cons_self ..)
    have hks := hP.k hs.1
    have hs0 : σ 26 s ≠ 0 := by omega
    obtain ⟨g1, g2, g3, g4, g5, g6, k, g7, g8, g9⟩ := hP.h9.2.2.2 s hs.1 hs0
    have hst : s ≠ t0 := fun q => by
      rw [← q] at h0
      exact hs0 h0
    have e7 := hP.h7.1 s hs.1 (by omega) g2
    rw [if_pos g3, g7] at e7
    have hkp := hP.p (pq_next g7).2.2
    have hT := hP.v.1
    have b16 := lcn_le (σ 25) s 16
    have e16 : c 8 16 s = lcn (σ 25) s 16 := hP.h9.1 s hs.1 hst
    have t18 := hQ.l8_18 hks
    have b18 := hQ.b 8 18 s (by decide)
    have t62 := hQ.l6_2 hkp
    have b62 := hQ.b 6 2 k (by decide)
    simp (disch := first | decide | assumption | omega) only [hQ.t0, hQ.t1, hQ.t2, hQ.t3, hQ.t4, hQ.t5, hQ.t6, hQ.t7, hQ.t8, hQ.t9, hQ.ta0, hQ.ta1, hQ.ta2, hQ.ta3, hQ.tb, hQ.e0, hQ.e1, hQ.e2, hQ.e3, hQ.i0_8, hQ.i0_9, hQ.i0_10, hQ.i0_11, hQ.i0_12, hQ.r0_0, hQ.r0_1, hQ.r0_2, hQ.r0_3, hQ.r0_4, hQ.r0_5, hQ.r0_6, hQ.r0_7, hQ.i1_0, hQ.i1_5, hQ.i1_6, hQ.r1_1, hQ.r1_2, hQ.r1_3, hQ.r1_4, hQ.i2_0, hQ.i2_1, hQ.i2_2, hQ.r2_3, hQ.i3_1, hQ.i3_3, hQ.r3_0, hQ.r3_2, hQ.r4_0, hQ.r4_1, hQ.i5_1, hQ.i5_2, hQ.r5_0, hQ.i6_0, hQ.i6_1, hQ.r6_2, hQ.i7_0, hQ.r7_1, hQ.r7_2, hQ.i8_0, hQ.i8_1, hQ.i8_3, hQ.i8_4, hQ.i8_5, hQ.i8_8, hQ.i8_9, hQ.i8_10, hQ.i8_11, hQ.i8_12, hQ.i8_13, hQ.i8_14, hQ.i8_16, hQ.r8_2, hQ.r8_6, hQ.r8_7, hQ.r8_15, hQ.r8_17, hQ.r8_18, hQ.i9_1, hQ.r9_0, hQ.r9_2, Option.some.injEq, exists_eq_left', nI_clamp, nI_1, mj_vin, true_and, eq_self, e1, e7, cl_ref_s]
    refine ⟨fun z => (by cases z), fun b z => ?_⟩
    subst z
    simp (disch := first | decide | assumption | omega) only [hQ.t0, hQ.t1, hQ.t2, hQ.t3, hQ.t4, hQ.t5, hQ.t6, hQ.t7, hQ.t8, hQ.t9, hQ.ta0, hQ.ta1, hQ.ta2, hQ.ta3, hQ.tb, hQ.e0, hQ.e1, hQ.e2, hQ.e3, hQ.i0_8, hQ.i0_9, hQ.i0_10, hQ.i0_11, hQ.i0_12, hQ.r0_0, hQ.r0_1, hQ.r0_2, hQ.r0_3, hQ.r0_4, hQ.r0_5, hQ.r0_6, hQ.r0_7, hQ.i1_0, hQ.i1_5, hQ.i1_6, hQ.r1_1, hQ.r1_2, hQ.r1_3, hQ.r1_4, hQ.i2_0, hQ.i2_1, hQ.i2_2, hQ.r2_3, hQ.i3_1, hQ.i3_3, hQ.r3_0, hQ.r3_2, hQ.r4_0, hQ.r4_1, hQ.i5_1, hQ.i5_2, hQ.r5_0, hQ.i6_0, hQ.i6_1, hQ.r6_2, hQ.i7_0, hQ.r7_1, hQ.r7_2, hQ.i8_0, hQ.i8_1, hQ.i8_3, hQ.i8_4, hQ.i8_5, hQ.i8_8, hQ.i8_9, hQ.i8_10, hQ.i8_11, hQ.i8_12, hQ.i8_13, hQ.i8_14, hQ.i8_16, hQ.r8_2, hQ.r8_6, hQ.r8_7, hQ.r8_15, hQ.r8_17, hQ.r8_18, hQ.i9_1, hQ.r9_0, hQ.r9_2, Option.some.injEq, exists_eq_left', nI_clamp, nI_1, mj_vin, true_and, eq_self, e7, cl_ref_s]
    refine ⟨fun z => (by cases z), fun b z => ?_⟩
    subst z
    simp (disch := first | decide | assumption | omega) only [hQ.t0, hQ.t1, hQ.t2, hQ.t3, hQ.t4, hQ.t5, hQ.t6, hQ.t7, hQ.t8, hQ.t9, hQ.ta0, hQ.ta1, hQ.ta2, hQ.ta3, hQ.tb, hQ.e0, hQ.e1, hQ.e2, hQ.e3, hQ.i0_8, hQ.i0_9, hQ.i0_10, hQ.i0_11, hQ.i0_12, hQ.r0_0, hQ.r0_1, hQ.r0_2, hQ.r0_3, hQ.r0_4, hQ.r0_5, hQ.r0_6, hQ.r0_7, hQ.i1_0, hQ.i1_5, hQ.i1_6, hQ.r1_1, hQ.r1_2, hQ.r1_3, hQ.r1_4, hQ.i2_0, hQ.i2_1, hQ.i2_2, hQ.r2_3, hQ.i3_1, hQ.i3_3, hQ.r3_0, hQ.r3_2, hQ.r4_0, hQ.r4_1, hQ.i5_1, hQ.i5_2, hQ.r5_0, hQ.i6_0, hQ.i6_1, hQ.r6_2, hQ.i7_0, hQ.r7_1, hQ.r7_2, hQ.i8_0, hQ.i8_1, hQ.i8_3, hQ.i8_4, hQ.i8_5, hQ.i8_8, hQ.i8_9, hQ.i8_10, hQ.i8_11, hQ.i8_12, hQ.i8_13, hQ.i8_14, hQ.i8_16, hQ.r8_2, hQ.r8_6, hQ.r8_7, hQ.r8_15, hQ.r8_17, hQ.r8_18, hQ.i9_1, hQ.r9_0, hQ.r9_2, Option.some.injEq, exists_eq_left', nI_clamp, nI_1, mj_vin, true_and, eq_self]
    have hQ2 := ((((hQ.pR 4 0 l (s + 1) hll (by decide) (by omega) (Or.inr hks)).pR 4 1 l (c 8 18 s) hll (by decide) b18 t18).pR 8 18 s 0 hks (by decide) (by decide) (Or.inl rfl)).pI 8 16 s (c 8 16 s + 1) hks (by decide) (by omega)).pR 8 7 s (c 6 2 k) hks (by decide) b62 t62
    unfold sp_unlock
    rw [hf, if_neg (by show s ≠ 0; omega)]
    refine ⟨⟨rfl, _, hQ2, hP.un1 l s k L hl ho h0 h01 q1 q2 q3 e7, ?_⟩, (by first | exact ⟨rfl, rfl⟩ | trivial)⟩
    show cc_u _ 8 16 s (c 8 16 s + 1) 8 16 t0 = c 8 16 t0
    rw [cc_ui _ _ _ _ (Ne.symm hst)]
    rfl
theorem REP.drop {t : Nat} (hP : REP B e t 0 σ c) (h : c 8 16 t = lcn (σ 25) t 16) : REP B e 0 0 σ c := by
  obtain ⟨hb, h1, h2, h3, h4, h5, h6, h7, h8, ⟨h9a, h9b, h9c, h9d⟩, h10, h11, h12, h13, h14, h15, h16⟩ := hP
  refine ⟨hb, h1, h2, h3, h4, h5, h6, h7, h8, ⟨fun t' ht' hn => ?_, h9b, h9c, h9d⟩, h10, h11, h12, h13, h14, h15, h16⟩
  by_cases q : t' = t
  · rw [q]
    exact h
  · exact h9a t' ht' q
theorem REP.take (hP : REP B e 0 t1 σ c) (t x : Nat) (ht : 1 ≤ t ∧ t ≤ σ 1 0) (hx : 1 ≤ x ∧ x ≤ 16) (h0 : σ 25 x = 0) : REP B e 0 t1 (ss_u σ 25 x t) (cc_u (cc_u c 4 0 x (t + 1)) 8 16 t (c 8 16 t + 1)) := by
  have hkt := hP.k ht
  have hlx := hP.lo (l := x) (by omega)
  obtain ⟨hb, h1, h2, h3, h4, h5, h6, h7, h8, ⟨h9a, h9b, h9c, h9d⟩, h10, h11, h12, h13, h14, h15, h16⟩ := hP
  refine ⟨hb, h1, h2, h3, h4, h5, h6, h7, h8, ⟨fun t' ht' hn => ?_, ⟨?_, fun l g1 g2 => ?_⟩, h9c, fun t' ht' hs => ?_⟩, h10, h11, h12, h13, h14, h15, (h16.u 4 0 x _ (Or.inl hlx)).u 8 16 t _ (Or.inl hkt)⟩
  · show cc_u _ 8 16 t (c 8 16 t + 1) 8 16 t' = lcn (ss_u σ 25 x t 25) t' 16
    rw [cc_ue]
    by_cases q : t' = t
    · rw [if_pos q, q, h9a t ht (by omega)]
      refine (lcn_in hx.1 (by omega) (by rw [ss_us]) 16 hx.2 fun j hj => ?_).symm
      rw [ss_ui _ _ _ _ hj]
    · rw [if_neg q, lcn_ow (by omega) (Ne.symm q)]
      exact h9a t' ht' hn
  · show cc_u c 4 0 x (t + 1) 4 0 0 = 0
    rw [cc_ui _ _ _ _ (by omega)]
    exact h9b.1
  · show cc_u c 4 0 x (t + 1) 4 0 l = enc (ss_u σ 25 x t 25 l) ∧ (ss_u σ 25 x t 25 l ≠ 0 → ss_u σ 25 x t 25 l ≤ σ 1 0)
    rw [cc_ue, ss_ue]
    by_cases q : l = x
    · rw [if_pos q, if_pos q, enc_s (by omega)]
      exact ⟨rfl, fun _ => ht.2⟩
    · rw [if_neg q, if_neg q]
      exact h9b.2 l g1 g2
  · obtain ⟨f1, f2, f3, f4, f5, f6, f7⟩ := h9d t' ht' hs
    have q : σ 26 t' ≠ x := fun q => by
      rw [q] at f5
      exact f5 h0
    refine ⟨f1, f2, f3, f4, ?_, ?_, f7⟩
    · show ss_u σ 25 x t 25 (σ 26 t') ≠ 0
      rw [ss_ui _ _ _ _ q]
      exact f5
    · show ss_u σ 25 x t 25 (σ 26 t') ≠ t'
      rw [ss_ui _ _ _ _ q]
      exact f6
theorem lc_takeLock (hQ : cl_Q B c μ0 μ) (hP : REP B e 0 0 σ c) (t x : Nat) (ht : 1 ≤ t ∧ t ≤ σ 1 0) (hx1 : 1 ≤ x ∧ x ≤ 16) (ho : σ 25 x = 0 ∨ σ 25 x = t) (hB : σ 39 0 + 1 < 2 ^ 31) :
    lc_V G my_T_takeLock mY_T_takeLock B e 0 0 σ (sp_code (ss_u σ 25 x t) t (if σ 25 x = t then 6 else 0)) μ0 μ [va_rf (some (cD B 8 t)), va_rf (some (cD B 4 x))] := by
  have hx := hP.x
  have hkt := hP.k ht
  have hlx := hP.lo (l := x) (by omega)
  have hT := hP.v.1
  have e1 := (hP.h9.2.1.2 x hx1.1 hx1.2).1
  have b16 := lcn_le (σ 25) t 16
  have e16 : c 8 16 t = lcn (σ 25) t 16 := hP.h9.1 t ht (by omega)
  refine mj_of (by decide) rfl (by decide) (Nat.le_of_ble_eq_true rfl) rfl ⟨Nat.le_add_right _ _, Nat.le_add_right _ _⟩ ?_
  refine bk_T_takeLock_0 ⟨fun z => (by cases z), fun b z => ?_⟩
  cases z
  unfold sp_code
  rcases ho with q | q
  · rw [q] at e1
    have e1' : c 4 0 x = 0 := e1
    rw [if_neg (by omega : ¬ σ 25 x = t), if_pos rfl, tb_0 (σ := σ) (σ' := ss_u σ 25 x t) rfl]
    simp (disch := first | decide | assumption | omega) only [hQ.t0, hQ.t1, hQ.t2, hQ.t3, hQ.t4, hQ.t5, hQ.t6, hQ.t7, hQ.t8, hQ.t9, hQ.ta0, hQ.ta1, hQ.ta2, hQ.ta3, hQ.tb, hQ.e0, hQ.e1, hQ.e2, hQ.e3, hQ.i0_8, hQ.i0_9, hQ.i0_10, hQ.i0_11, hQ.i0_12, hQ.r0_0, hQ.r0_1, hQ.r0_2, hQ.r0_3, hQ.r0_4, hQ.r0_5, hQ.r0_6, hQ.r0_7, hQ.i1_0, hQ.i1_5, hQ.i1_6, hQ.r1_1, hQ.r1_2, hQ.r1_3, hQ.r1_4, hQ.i2_0, hQ.i2_1, hQ.i2_2, hQ.r2_3, hQ.i3_1, hQ.i3_3, hQ.r3_0, hQ.r3_2, hQ.r4_0, hQ.r4_1, hQ.i5_1, hQ.i5_2, hQ.r5_0, hQ.i6_0, hQ.i6_1, hQ.r6_2, hQ.i7_0, hQ.r7_1, hQ.r7_2, hQ.i8_0, hQ.i8_1, hQ.i8_3, hQ.i8_4, hQ.i8_5, hQ.i8_8, hQ.i8_9, hQ.i8_10, hQ.i8_11, hQ.i8_12, hQ.i8_13, hQ.i8_14, hQ.i8_16, hQ.r8_2, hQ.r8_6, hQ.r8_7, hQ.r8_15, hQ.r8_17, hQ.r8_18, hQ.i9_1, hQ.r9_0, hQ.r9_2, Option.some.injEq, exists_eq_left', nI_clamp, nI_1, mj_vin, true_and, eq_self, e1', cl_ref_0]
    refine ⟨fun _ => ?_, fun b z => (by cases z)⟩
    exact ⟨⟨rfl, _, (hQ.pR 4 0 x (t + 1) hlx (by decide) (by omega) (Or.inr hkt)).pI 8 16 t (c 8 16 t + 1) hkt (by decide) (by omega), hP.take t x ht hx1 q⟩, (by first | exact ⟨rfl, rfl⟩ | trivial)⟩
  · rw [enc_s (by omega)] at e1
    rw [if_pos q, if_neg (by decide), ss_id q]
    simp (disch := first | decide | assumption | omega) only [hQ.t0, hQ.t1, hQ.t2, hQ.t3, hQ.t4, hQ.t5, hQ.t6, hQ.t7, hQ.t8, hQ.t9, hQ.ta0, hQ.ta1, hQ.ta2, hQ.ta3, hQ.tb, hQ.e0, hQ.e1, hQ.e2, hQ.e3, hQ.i0_8, hQ.i0_9, hQ.i0_10, hQ.i0_11, hQ.i0_12, hQ.r0_0, hQ.r0_1, hQ.r0_2, hQ.r0_3, hQ.r0_4, hQ.r0_5, hQ.r0_6, hQ.r0_7, hQ.i1_0, hQ.i1_5, hQ.i1_6, hQ.r1_1, hQ.r1_2, hQ.r1_3, hQ.r1_4, hQ.i2_0, hQ.i2_1, hQ.i2_2, hQ.r2_3, hQ.i3_1, hQ.i3_3, hQ.r3_0, hQ.r3_2, hQ.r4_0, hQ.r4_1, hQ.i5_1, hQ.i5_2, hQ.r5_0, hQ.i6_0, hQ.i6_1, hQ.r6_2, hQ.i7_0, hQ.r7_1, hQ.r7_2, hQ.i8_0, hQ.i8_1, hQ.i8_3, hQ.i8_4, hQ.i8_5, hQ.i8_8, hQ.i8_9, hQ.i8_10, hQ.i8_11, hQ.i8_12, hQ.i8_13, hQ.i8_14, hQ.i8_16, hQ.r8_2, hQ.r8_6, hQ.r8_7, hQ.r8_15, hQ.r8_17, hQ.r8_18, hQ.i9_1, hQ.r9_0, hQ.r9_2, Option.some.injEq, exists_eq_left', nI_clamp, nI_1, mj_vin, true_and, eq_self, e1, cl_ref_s]
    refine ⟨fun z => (by cases z), fun b z => ?_⟩
    exact ⟨_, _, _, lc_tell hQ hP hB 6 t (by decide) ht, ⟨Nat.le_refl _, Nat.le_refl _⟩, fun μ2 h r3 r4 => bk_T_takeLock_18 ⟨⟨rfl, h⟩, r3, r4⟩⟩
theorem lc_unlock (hQ : cl_Q B c μ0 μ) (hP : REP B e 0 0 σ c) (t x : Nat) (ht : 1 ≤ t ∧ t ≤ σ 1 0) (hx1 : 1 ≤ x ∧ x ≤ 16) (h26 : σ 26 t = 0) (hB : σ 39 0 + 1 < 2 ^ 31) :
    lc_V G my_T_unlock mY_T_unlock B e 0 0 σ (if σ 25 x = t then sp_unlock σ x else sp_tell σ 6 t) μ0 μ [va_rf (some (cD B 8 t)), va_rf (some (cD B 4 x))] := by
  have hx := hP.x
  have hkt := hP.k ht
  have hlx := hP.lo (l := x) (by omega)
  have e1 := (hP.h9.2.1.2 x hx1.1 hx1.2).1
  have b16 := lcn_le (σ 25) t 16
  have e16 : c 8 16 t = lcn (σ 25) t 16 := hP.h9.1 t ht (by omega)
  have el : (mj_r μ (cD B 4 x) 0 = some (cD B 8 t)) = (σ 25 x = t) := by
    rw [hQ.r4_0 hlx, show some (cD B 8 t) = cl_ref B 8 (t + 1) from rfl, cl_ref_inj hQ.1 (w := t + 1) (hQ.l4_0 hlx) (Or.inr hkt), e1]
    unfold enc
    apply propext
    split <;> omega
  refine mj_of (by decide) rfl (by decide) (Nat.le_of_ble_eq_true rfl) rfl ⟨Nat.le_add_right _ _, Nat.le_add_right _ _⟩ ?_
  refine bk_T_unlock_0 ⟨fun z => (by cases z), fun b z => ?_⟩
  cases z
  rw [el]
  refine ⟨hQ.t4 hlx, fun q => ⟨_, rfl, hQ.t8 hkt, ?_⟩, fun q => ⟨hQ.t0 hx, ?_⟩⟩
  · rw [if_pos q, tb_0 (sp_unlock_f σ x 39 0 (by decide)), hQ.i8_16 hkt]
    have hin : lcn (σ 25) t 16 = lcn (sp_unlock σ x 25) t 16 + 1 := lcn_in hx1.1 (sp_unlock_25s σ x t (by omega) (by omega) h26) q 16 hx1.2 (fun l hl => (sp_unlock_25 σ x l hl).symm)
    have hd : nI (c 8 16 t) - 1 = nI (c 8 16 t - 1) := by
      rw [show (1 : Int32) = nI 1 from rfl, nI_subN (by omega)]
    rw [hd]
    have hQ1 := hQ.pI 8 16 t (c 8 16 t - 1) hkt (by decide) (by omega)
    have hP1 : REP B e t 0 σ (cc_u c 8 16 t (c 8 16 t - 1)) := by
      obtain ⟨hb, h1, h2, h3, h4, h5, h6, h7, h8, ⟨h9a, h9b, h9c, h9d⟩, h10, h11, h12, h13, h14, h15, h16⟩ := hP
      refine ⟨hb, h1, h2, h3, h4, h5, h6, h7, h8, ⟨fun t' ht' hn => ?_, h9b, h9c, h9d⟩, h10, h11, h12, h13, h14, h15, h16.u 8 16 t _ (Or.inl hkt)⟩
      rw [cc_ui _ _ _ _ hn]
      exact h9a t' ht' (by omega)
    refine ⟨_, lc_handOnX hQ1 hP1 x hx1 q h26 (Or.inl rfl), fun μ2 h r3 r4 => bk_T_unlock_34 ⟨⟨rfl, ?_⟩, r3, r4⟩⟩
    obtain ⟨c2, hQ2, hP2, e2⟩ := h
    refine ⟨c2, hQ2, hP2.drop ?_⟩
    rw [e2, cc_us]
    omega
  · rw [if_neg q]
    exact ⟨_, _, _, lc_tell hQ hP hB 6 t (by decide) ht, ⟨Nat.le_refl _, Nat.le_refl _⟩, fun μ2 h r3 r4 => bk_T_unlock_19 ⟨⟨rfl, h⟩, r3, r4⟩⟩
theorem lc_putOff (hQ : cl_Q B c μ0 μ) (hP : REP B e 0 0 σ c) (t x : Nat) (ht : 1 ≤ t ∧ t ≤ σ 1 0) (hx1 : x ≤ 50000) (hB : σ 39 0 + 1 < 2 ^ 31) :
    lc_V G my_T_putOff mY_T_putOff B e 0 0 σ (if σ 3 t ≠ 0 ∨ 0 < σ 29 0 then sp_tell σ 7 t else ss_u (ss_u (ss_u σ 29 0 t) 30 0 (σ 43 0 + x)) 31 0 0) μ0 μ [va_rf (some (cD B 8 t)), .int (nI x)] := by
  have hx := hP.x
  have hkt := hP.k ht
  have hu := hP.u
  have h3t := (hP.h2 t ht).2.2.2.2.2.2.2
  have hck := hP.co h3t
  have hT := hP.v.1
  have hC := hP.v.2.1.2
  have hnow : σ 43 0 ≤ 50000 := hP.v.2.2.2.2.2.2.2.2.2
  have e2 : c 8 2 t = σ 3 t + 1 := (hP.h2 t ht).2.2.1
  have e0 : c 1 0 (σ 3 t) = σ 3 t := (hP.h4 _ h3t).1
  have e4 : c 0 4 0 = 1 := hP.h1.1.2.2.2.2.1
  have e12 : c 0 12 0 = σ 43 0 := hP.h1.2.1.2.2.2.2
  have eo : c 3 2 0 = enc (σ 29 0) := hP.h10.2.2.1
  have tell : ∃ (N' S' : Nat) (P : mj_MM → Prop), mj_M G my_T_tellCode mY_T_tellCode [va_rf (some (cD B 0 0)), .int 7, va_rf (some (cD B 8 t))] N' S' μ (mj_XV P) ∧ (N' ≤ mj_nc μ + tb σ (sp_tell σ 7 t) ∧ S' ≤ mj_ns μ + 512 * tb σ (sp_tell σ 7 t)) ∧ ∀ μ', P μ' → mj_nc μ' = N' → mj_ns μ' = S' → mj_J G mY_T_putOff (fun v μ' => mj_XV (fun μ' => CR B e 0 0 (sp_tell σ 7 t) μ0 μ') v μ' ∧ mj_nc μ' = mj_nc μ + tb σ (sp_tell σ 7 t) ∧ mj_ns μ' = mj_ns μ + 512 * tb σ (sp_tell σ 7 t)) (mj_nc μ + tb σ (sp_tell σ 7 t)) (mj_ns μ + 512 * tb σ (sp_tell σ 7 t)) 27 [] [] μ' :=
    ⟨_, _, _, lc_tell hQ hP hB 7 t (by decide) ht, ⟨Nat.le_refl _, Nat.le_refl _⟩, fun μ2 h r3 r4 => bk_T_putOff_27 ⟨⟨rfl, h⟩, r3, r4⟩⟩
  refine mj_of (by decide) rfl (by decide) (Nat.le_of_ble_eq_true rfl) rfl ⟨Nat.le_add_right _ _, Nat.le_add_right _ _⟩ ?_
  refine bk_T_putOff_0 ?_
  simp (disch := first | decide | assumption | omega) only [hQ.t0, hQ.t1, hQ.t2, hQ.t3, hQ.t4, hQ.t5, hQ.t6, hQ.t7, hQ.t8, hQ.t9, hQ.ta0, hQ.ta1, hQ.ta2, hQ.ta3, hQ.tb, hQ.e0, hQ.e1, hQ.e2, hQ.e3, hQ.i0_8, hQ.i0_9, hQ.i0_10, hQ.i0_11, hQ.i0_12, hQ.r0_0, hQ.r0_1, hQ.r0_2, hQ.r0_3, hQ.r0_4, hQ.r0_5, hQ.r0_6, hQ.r0_7, hQ.i1_0, hQ.i1_5, hQ.i1_6, hQ.r1_1, hQ.r1_2, hQ.r1_3, hQ.r1_4, hQ.i2_0, hQ.i2_1, hQ.i2_2, hQ.r2_3, hQ.i3_1, hQ.i3_3, hQ.r3_0, hQ.r3_2, hQ.r4_0, hQ.r4_1, hQ.i5_1, hQ.i5_2, hQ.r5_0, hQ.i6_0, hQ.i6_1, hQ.r6_2, hQ.i7_0, hQ.r7_1, hQ.r7_2, hQ.i8_0, hQ.i8_1, hQ.i8_3, hQ.i8_4, hQ.i8_5, hQ.i8_8, hQ.i8_9, hQ.i8_10, hQ.i8_11, hQ.i8_12, hQ.i8_13, hQ.i8_14, hQ.i8_16, hQ.r8_2, hQ.r8_6, hQ.r8_7, hQ.r8_15, hQ.r8_17, hQ.r8_18, hQ.i9_1, hQ.r9_0, hQ.r9_2, Option.some.injEq, exists_eq_left', nI_clamp, nI_1, mj_vin, true_and, eq_self, e2, e0, e4, e12, mj_z0, cl_ref_s]
  by_cases q : σ 3 t ≠ 0 ∨ 0 < σ 29 0
  · rw [if_pos q]
    refine ⟨fun _ => tell, fun q1 => ?_⟩
    have q2 : σ 29 0 ≠ 0 := by omega
    rw [eo, enc_s q2]
    exact ⟨fun z => (by cases z), fun b z => tell⟩
  · rw [if_neg q, tb_0 (σ := σ) (σ' := ss_u (ss_u (ss_u σ 29 0 t) 30 0 (σ 43 0 + x)) 31 0 0) rfl]
    have q1 : σ 3 t = 0 := by omega
    have q2 : σ 29 0 = 0 := by omega
    refine ⟨fun z => absurd q1 z, fun _ => ?_⟩
    rw [eo, q2]
    refine ⟨fun _ => ?_, fun b z => (by cases z)⟩
    rw [nI_add]
    refine ⟨⟨rfl, _, (hQ.pR 3 2 0 (t + 1) hu (by decide) (by omega) (Or.inr hkt)).pI 3 3 0 (σ 43 0 + x) hu (by decide) (by omega), ?_⟩, rfl, rfl⟩
    obtain ⟨hb, h1, h2, h3, h4, h5, h6, h7, h8, h9, ⟨h10a, h10b, h10c, h10d, h10e⟩, h11, h12, h13, h14, h15, h16⟩ := hP
    refine ⟨hb, h1, h2, h3, h4, h5, h6, h7, h8, h9, ⟨h10a, h10b, ?_, fun _ => ⟨rfl, ht.2, q1⟩, h10e⟩, h11, h12, h13, h14, h15, (h16.u 3 2 0 _ (Or.inl hu)).u 3 3 0 _ (Or.inl hu)⟩
    show t + 1 = enc t
    rw [enc_s (by omega)]
theorem lc_putOn (hQ : cl_Q B c μ0 μ) (hP : REP B e 0 0 σ c) (t : Nat) (ht : 1 ≤ t ∧ t ≤ σ 1 0) (hB : σ 39 0 + 1 < 2 ^ 31) :
    lc_V G my_T_putOn mY_T_putOn B e 0 0 σ (if σ 3 t ≠ 0 ∨ σ 29 0 = 0 then sp_tell (ss_u σ 29 0 (σ 29 0)) 7 t else ss_u σ 29 0 0) μ0 μ [va_rf (some (cD B 8 t))] := by
  have hx := hP.x
  have hkt := hP.k ht
  have hu := hP.u
  have h3t := (hP.h2 t ht).2.2.2.2.2.2.2
  have hck := hP.co h3t
  have hC := hP.v.2.1.2
  have e2 : c 8 2 t = σ 3 t + 1 := (hP.h2 t ht).2.2.1
  have e0 : c 1 0 (σ 3 t) = σ 3 t := (hP.h4 _ h3t).1
  have e4 : c 0 4 0 = 1 := hP.h1.1.2.2.2.2.1
  have eo : c 3 2 0 = enc (σ 29 0) := hP.h10.2.2.1
  rw [ss_id (σ := σ) (f := 29) (i := 0) (v := σ 29 0) rfl]
  have tell : ∃ (N' S' : Nat) (P : mj_MM → Prop), mj_M G my_T_tellCode mY_T_tellCode [va_rf (some (cD B 0 0)), .int 7, va_rf (some (cD B 8 t))] N' S' μ (mj_XV P) ∧ (N' ≤ mj_nc μ + tb σ (sp_tell σ 7 t) ∧ S' ≤ mj_ns μ + 512 * tb σ (sp_tell σ 7 t)) ∧ ∀ μ', P μ' → mj_nc μ' = N' → mj_ns μ' = S' → mj_J G mY_T_putOn (fun v μ' => mj_XV (fun μ' => CR B e 0 0 (sp_tell σ 7 t) μ0 μ') v μ' ∧ mj_nc μ' = mj_nc μ + tb σ (sp_tell σ 7 t) ∧ mj_ns μ' = mj_ns μ + 512 * tb σ (sp_tell σ 7 t)) (mj_nc μ + tb σ (sp_tell σ 7 t)) (mj_ns μ + 512 * tb σ (sp_tell σ 7 t)) 27 [] [] μ' :=
    ⟨_, _, _, lc_tell hQ hP hB 7 t (by decide) ht, ⟨Nat.le_refl _, Nat.le_refl _⟩, fun μ2 h r3 r4 => bk_T_putOn_27 ⟨⟨rfl, h⟩, r3, r4⟩⟩
  refine mj_of (by decide) rfl (by decide) (Nat.le_of_ble_eq_true rfl) rfl ⟨Nat.le_add_right _ _, Nat.le_add_right _ _⟩ ?_
  refine bk_T_putOn_0 ?_
  simp (disch := first | decide | assumption | omega) only [hQ.t0, hQ.t1, hQ.t2, hQ.t3, hQ.t4, hQ.t5, hQ.t6, hQ.t7, hQ.t8, hQ.t9, hQ.ta0, hQ.ta1, hQ.ta2, hQ.ta3, hQ.tb, hQ.e0, hQ.e1, hQ.e2, hQ.e3, hQ.i0_8, hQ.i0_9, hQ.i0_10, hQ.i0_11, hQ.i0_12, hQ.r0_0, hQ.r0_1, hQ.r0_2, hQ.r0_3, hQ.r0_4, hQ.r0_5, hQ.r0_6, hQ.r0_7, hQ.i1_0, hQ.i1_5, hQ.i1_6, hQ.r1_1, hQ.r1_2, hQ.r1_3, hQ.r1_4, hQ.i2_0, hQ.i2_1, hQ.i2_2, hQ.r2_3, hQ.i3_1, hQ.i3_3, hQ.r3_0, hQ.r3_2, hQ.r4_0, hQ.r4_1, hQ.i5_1, hQ.i5_2, hQ.r5_0, hQ.i6_0, hQ.i6_1, hQ.r6_2, hQ.i7_0, hQ.r7_1, hQ.r7_2, hQ.i8_0, hQ.i8_1, hQ.i8_3, hQ.i8_4, hQ.i8_5, hQ.i8_8, hQ.i8_9, hQ.i8_10, hQ.i8_11, hQ.i8_12, hQ.i8_13, hQ.i8_14, hQ.i8_16, hQ.r8_2, hQ.r8_6, hQ.r8_7, hQ.r8_15, hQ.r8_17, hQ.r8_18, hQ.i9_1, hQ.r9_0, hQ.r9_2, Option.some.injEq, exists_eq_left', nI_clamp, nI_1, mj_vin, true_and, eq_self, e2, e0, e4, mj_z0, cl_ref_s]
  by_cases q : σ 3 t ≠ 0 ∨ σ 29 0 = 0
  · rw [if_pos q]
    refine ⟨fun _ => tell, fun q1 => ?_⟩
    have q2 : σ 29 0 = 0 := by omega
    rw [eo, q2]
    exact ⟨fun _ => tell, fun b z => (by cases z)⟩
  · rw [if_neg q, tb_0 (σ := σ) (σ' := ss_u σ 29 0 0) rfl]
    have q1 : σ 3 t = 0 := by omega
    have q2 : σ 29 0 ≠ 0 := by omega
    refine ⟨fun z => absurd q1 z, fun _ => ?_⟩
    rw [eo, enc_s q2]
    refine ⟨fun z => (by cases z), fun b z => ?_⟩
    refine ⟨⟨rfl, _, hQ.pR 3 2 0 0 hu (by decide) (by omega) (Or.inl rfl), ?_⟩, rfl, rfl⟩
    obtain ⟨hb, h1, h2, h3, h4, h5, h6, h7, h8, h9, ⟨h10a, h10b, h10c, h10d, h10e⟩, h11, h12, h13, h14, h15, h16⟩ := hP
    exact ⟨hb, h1, h2, h3, h4, h5, h6, h7, h8, h9, ⟨h10a, h10b, rfl, fun z => absurd rfl z, h10e⟩, h11, h12, h13, h14, h15, h16.u 3 2 0 _ (Or.inl hu)⟩
theorem REP.sched (hP : REP B e t0 t1 σ c) (t : Nat) (ht : 1 ≤ t ∧ t ≤ σ 1 0) (h11 : σ 11 t = 2) : REP B e t0 t1 (ss_u σ 19 t 1) (cc_u c 1 6 (σ 3 t) 1) := by
  have h3t := (hP.h2 t ht).2.2.2.2.2.2.2
  have hck := hP.co h3t
  obtain ⟨hb, h1, h2, h3, h4, ⟨h5a, h5b, h5c, h5d, h5e⟩, h6, h7, h8, h9, h10, h11', h12, h13, ⟨h14a, h14b, h14c⟩, h15, h16⟩ := hP
  have hr := (h5a t ht).mp h11
  refine ⟨hb, h1, h2, h3, h4, ⟨h5a, h5b, fun k hk hz => ?_, fun t' ht' hs => ?_, fun t' ht' hs => ?_⟩, h6, h7, h8, h9, h10, h11', h12, h13, ⟨h14a, h14b, fun t' ht' => ?_⟩, h15, h16.u 1 6 _ _ (Or.inl hck)⟩
  · have hz' : c 1 4 k = 0 := hz
    show cc_u c 1 6 (σ 3 t) 1 1 6 k = 0
    rw [cc_ui _ _ _ _ (fun z => by rw [z, hr] at hz'; omega)]
    exact h5c k hk hz'
  · have hs' : σ 11 t' = 2 := hs
    show cc_u c 1 6 (σ 3 t) 1 1 6 (σ 3 t') = ss_u σ 19 t 1 19 t'
    rw [cc_ue, ss_ue]
    by_cases q : t' = t
    · rw [if_pos q, if_pos (by rw [q])]
    · rw [if_neg q]
      have hr' := (h5a t' ht').mp hs'
      rw [if_neg (fun z => by rw [z, hr] at hr'; omega)]
      exact h5d t' ht' hs'
  · have hs' : σ 11 t' ≠ 2 := hs
    rw [ss_ue, if_neg (fun z => hs' (by rw [z]; exact h11))]
    exact h5e t' ht' hs'
  · have q3 : t' ≠ t := fun q => by
      have : σ 1 0 < t' := ht'
      omega
    have this := h14c t' ht'
    simp [ss_u, q3]
    exact this
theorem an_gd {k v : Nat} (h : an_good k v) : k < 14 ∧ v < 2 ^ 23 ∧ (k = 0 → 1 ≤ v ∧ v ≤ 50000) ∧ ((k = 6 ∨ k = 7) → 1 ≤ v ∧ v ≤ 32) ∧ ((k = 8 ∨ k = 9) → 1 ≤ v ∧ v ≤ 16) ∧ (k = 12 → 1 ≤ v ∧ v ≤ 50000) := by
  unfold an_good at h
  omega
/-- the next part of a task, or its end -/
def sp_dn (σ : ss_S) (t : Nat) : ss_S := match sp_next σ t with | none => sp_ends σ t | some k => sp_act σ t (σ 9 k) (σ 10 k)
theorem lc_doNext (hQ : cl_Q B c μ0 μ) (hP : REP B e 0 0 σ c) (t : Nat) (ht : 1 ≤ t ∧ t ≤ σ 1 0) (h11 : σ 11 t = 2) (h19 : σ 19 t = 0) (h16 : σ 16 t = 0) (h26 : σ 26 t = 0) (hn : ∀ k, sp_next σ t = some k → σ 9 k ≠ 0 ∧ ¬ (σ 9 k = 8 ∧ σ 25 (σ 10 k) ≠ 0 ∧ σ 25 (σ 10 k) ≠ t)) (hb : σ 21 0 + 2 < 2 ^ 31) (hB : σ 39 0 + 3 < 2 ^ 31) :
    lc_V G my_T_doNextPart mY_T_doNextPart B e 0 0 σ (sp_dn σ t) μ0 μ [va_rf (some (cD B 8 t))] := by
  have hx := hP.x
  have hkt := hP.k ht
  have h3t := (hP.h2 t ht).2.2.2.2.2.2.2
  have hck := hP.co h3t
  have e7 := hP.h7.1 t ht (by omega) (by omega)
  rw [if_pos h16] at e7
  have e2 : c 8 2 t = σ 3 t + 1 := (hP.h2 t ht).2.2.1
  refine mj_of (by decide) rfl (by decide) (Nat.le_of_ble_eq_true rfl) rfl ⟨Nat.le_add_right _ _, Nat.le_add_right _ _⟩ ?_
  unfold sp_dn
  rcases sp_next_eq σ t with ⟨n1, n2⟩ | ⟨k, n1, n2⟩
  · have h15 : σ 15 t = 0 := by
      apply Decidable.byContradiction
      intro z
      obtain ⟨-, k, y, -⟩ := hP.h7.2.2 t ht (by omega) h16 z
      omega
    rw [n1]
    rw [n2] at e7
    refine bk_T_doNextPart_0 ⟨_, rfl, hQ.t8 hkt, ?_⟩
    rw [hQ.r8_7 hkt, e7]
    exact ⟨fun _ => ⟨hQ.t0 hx, _, _, _, lc_ends hQ hP t ht h11 h19 h26 h15 (Or.inl rfl) (by omega) (by omega), ⟨Nat.le_refl _, Nat.le_refl _⟩, fun μ2 h r3 r4 => bk_T_doNextPart_14 ⟨⟨rfl, h⟩, r3, r4⟩⟩, fun b z => (by cases z)⟩
  · obtain ⟨hk0, hk8⟩ := hn k n1
    have h15 : σ 15 t = 0 := by
      apply Decidable.byContradiction
      intro z
      obtain ⟨-, k', y, y2, -⟩ := hP.h7.2.2 t ht (by omega) h16 z
      have : k' = k := by omega
      subst this
      exact hk0 y2
    show mj_J G mY_T_doNextPart (fun v μ' => mj_XV (fun μ' => CR B e 0 0 (match sp_next σ t with | none => sp_ends σ t | some k => sp_act σ t (σ 9 k) (σ 10 k)) μ0 μ') v μ' ∧ mj_nc μ' = mj_nc μ + tb σ (match sp_next σ t with | none => sp_ends σ t | some k => sp_act σ t (σ 9 k) (σ 10 k)) ∧ mj_ns μ' = mj_ns μ + 512 * tb σ (match sp_next σ t with | none => sp_ends σ t | some k => sp_act σ t (σ 9 k) (σ 10 k))) (mj_nc μ + tb σ (match sp_next σ t with | none => sp_ends σ t | some k => sp_act σ t (σ 9 k) (σ 10 k))) (mj_ns μ + 512 * tb σ (match sp_next σ t with | none => sp_ends σ t | some k => sp_act σ t (σ 9 k) (σ 10 k))) 0 _ [] μ
    have em : (match sp_next σ t with | none => sp_ends σ t | some k => sp_act σ t (σ 9 k) (σ 10 k)) = sp_act σ t (σ 9 k) (σ 10 k) := by rw [n1]
    rw [em]
    rw [n2] at e7
    obtain ⟨w1, w2, w3⟩ := pq_next n2
    have hkp := hP.p w3
    obtain ⟨p0, p1, p2, -, -, pg⟩ := hP.h6.1 k w3
    obtain ⟨g1, g2, g3, g4, g5, g6⟩ := an_gd pg
    have b62 := hQ.b 6 2 k (by decide)
    have t62 := hQ.l6_2 hkp
    have hQ1 := hQ.pR 8 7 t (c 6 2 k) hkt (by decide) b62 t62
    have hP1 := hP.adv t k ht (by omega) h16 h26 h15 n2
    have hPx := hP.advx t (c 6 2 k) ht
    have e21' : ∀ f i, f ≠ 14 → ss_u σ 14 t (σ 14 t + 1) f i = σ f i := fun f i h => ss_uf _ _ _ _ h
    have tb14 : ∀ τ, tb (ss_u σ 14 t (σ 14 t + 1)) τ = tb σ τ := fun _ => rfl
    refine bk_T_doNextPart_0 ⟨_, rfl, hQ.t8 hkt, ?_⟩
    rw [hQ.r8_7 hkt, e7]
    refine ⟨fun z => (by cases z), fun b z => ?_⟩
    cases z
    rw [hQ.i6_0 hkp, hQ.i6_1 hkp, hQ.r6_2 hkp, p0, p1]
    show mj_t μ (cD B 6 k) = 7 ∧ _
    generalize σ 9 k = K at *
    generalize hX : σ 10 k = X at *
    rw [show (1 : Int32) = nI 1 from rfl, show (2 : Int32) = nI 2 from rfl, show (3 : Int32) = nI 3 from rfl, show (4 : Int32) = nI 4 from rfl, show (5 : Int32) = nI 5 from rfl, show (6 : Int32) = nI 6 from rfl, show (7 : Int32) = nI 7 from rfl, show (8 : Int32) = nI 8 from rfl, show (9 : Int32) = nI 9 from rfl, show (10 : Int32) = nI 10 from rfl, show (11 : Int32) = nI 11 from rfl, show (12 : Int32) = nI 12 from rfl, show (13 : Int32) = nI 13 from rfl]
    have zz : ∀ a, a < 14 → (nI K = nI a) = (K = a) := fun a ha => mj_zz (by omega) (by omega)
    rw [zz 1 (by decide), zz 2 (by decide), zz 3 (by decide), zz 4 (by decide), zz 5 (by decide), zz 6 (by decide), zz 7 (by decide), zz 8 (by decide), zz 9 (by decide), zz 10 (by decide), zz 11 (by decide), zz 12 (by decide), zz 13 (by decide)]
    refine ⟨hQ.t6 hkp, fun z => ⟨hQ.t0 hx, ?_⟩, fun z => ⟨hQ.t0 hx, ?_⟩, fun z => ⟨hQ.t0 hx, ?_⟩, fun z => ⟨hQ.t0 hx, ?_⟩, fun z => ⟨hQ.t0 hx, ?_⟩, fun z => ⟨hQ.t0 hx, ?_⟩, fun z => ⟨hQ.t0 hx, ?_⟩, fun z => ⟨hQ.t0 hx, ?_⟩, fun z => ⟨hQ.t0 hx, ?_⟩, fun z => ?_, fun z => ⟨hQ.t0 hx, ?_⟩, fun z => ⟨hQ.t0 hx, ?_⟩, fun z => ⟨hQ.t0 hx, ?_⟩, fun z => ?_⟩
    · subst z
      rw [sp_act_do (by decide) (by decide) (fun z => absurd z.1 (by decide)), sp_do_1]
      have := lc_actBy (G := G) hQ1 hP1 t X ht (by omega) (by show σ 21 0 + 1 < _; omega) (by show σ 39 0 + 1 < _; omega)
      unfold lc_V at this
      rw [tb14] at this
      exact ⟨_, _, _, this, ⟨Nat.le_refl _, Nat.le_refl _⟩, fun μ2 h r3 r4 => bk_T_doNextPart_106 ⟨⟨rfl, h⟩, r3, r4⟩⟩
    · subst z
      rw [sp_act_2]
      exact ⟨_, _, _, lc_chain (G := G) hQ1 hPx t X ht (by omega) h11 h19 h26 h15 (Or.inr rfl) hb hB, ⟨Nat.le_refl _, Nat.le_refl _⟩, fun μ2 h r3 r4 => bk_T_doNextPart_115 ⟨⟨rfl, h⟩, r3, r4⟩⟩
    · subst z
      rw [sp_act_do (by decide) (by decide) (fun z => absurd z.1 (by decide)), sp_do_3]
      have := lc_wait (G := G) hQ1 hP1 t X ht (by omega) h11 h19 (by show σ 39 0 + 1 < _; omega)
      unfold lc_V at this
      rw [tb14] at this
      exact ⟨_, _, _, this, ⟨Nat.le_refl _, Nat.le_refl _⟩, fun μ2 h r3 r4 => bk_T_doNextPart_124 ⟨⟨rfl, h⟩, r3, r4⟩⟩
    · subst z
      rw [sp_act_do (by decide) (by decide) (fun z => absurd z.1 (by decide)), sp_do_4]
      have := lc_setBy (G := G) hQ1 hP1 t (X / 65536) (X % 65536) ht (by omega) (by omega) (by show σ 21 0 + 1 < _; omega) (by show σ 39 0 + 1 < _; omega)
      rw [show (65536 : Int32) = nI 65536 from rfl, pk_rem (by omega) (by decide) (by decide), pk_div (by omega) (by decide) (by decide)]
      unfold lc_V at this
      rw [tb14] at this
      exact ⟨_, _, _, this, ⟨Nat.le_refl _, Nat.le_refl _⟩, fun μ2 h r3 r4 => bk_T_doNextPart_140 ⟨⟨rfl, h⟩, r3, r4⟩⟩
    · subst z
      rw [sp_act_do (by decide) (by decide) (fun z => absurd z.1 (by decide)), sp_do_5]
      have := lc_clear (G := G) hQ1 hP1 t X ht (by show σ 39 0 + 1 < _; omega)
      unfold lc_V at this
      rw [tb14] at this
      exact ⟨_, _, _, this, ⟨Nat.le_refl _, Nat.le_refl _⟩, fun μ2 h r3 r4 => bk_T_doNextPart_149 ⟨⟨rfl, h⟩, r3, r4⟩⟩
    · subst z
      rw [sp_act_do (by decide) (by decide) (fun z => absurd z.1 (by decide)), sp_do_6]
      have hXr := g4 (Or.inl rfl)
      refine ⟨_, lc_resourceOf hQ1 hP1 (nI X), fun y μ2 h r3 r4 => ?_⟩
      obtain ⟨hy, rfl⟩ := h
      rw [nI_toInt (by omega), Int.toNat_natCast, if_pos (by omega)] at hy
      rw [hy]
      have := lc_get (G := G) hQ1 hP1 t X ht hXr (by show σ 39 0 + 1 < _; omega)
      unfold lc_V at this
      rw [tb14] at this
      exact bk_T_doNextPart_159 ⟨hQ1.t0 hx, _, _, _, this, ⟨Nat.le_refl _, Nat.le_refl _⟩, fun μ2 h r3 r4 => bk_T_doNextPart_162 ⟨⟨rfl, h⟩, r3, r4⟩⟩
    · subst z
      rw [sp_act_do (by decide) (by decide) (fun z => absurd z.1 (by decide)), sp_do_7]
      have hXr := g4 (Or.inr rfl)
      refine ⟨_, lc_resourceOf hQ1 hP1 (nI X), fun y μ2 h r3 r4 => ?_⟩
      obtain ⟨hy, rfl⟩ := h
      rw [nI_toInt (by omega), Int.toNat_natCast, if_pos (by omega)] at hy
      rw [hy]
      have := lc_freeR (G := G) hQ1 hP1 t X ht hXr (by show σ 39 0 + 1 < _; omega)
      unfold lc_V at this
      rw [tb14] at this
      exact bk_T_doNextPart_172 ⟨hQ1.t0 hx, _, _, _, this, ⟨Nat.le_refl _, Nat.le_refl _⟩, fun μ2 h r3 r4 => bk_T_doNextPart_175 ⟨⟨rfl, h⟩, r3, r4⟩⟩
    · subst z
      rw [sp_act_do (by decide) (by decide) (by omega), sp_do_8]
      have hXr := g5 (Or.inl rfl)
      have ho : σ 25 X = 0 ∨ σ 25 X = t := by omega
      refine ⟨_, lc_lockOf hQ1 hP1 (nI X), fun y μ2 h r3 r4 => ?_⟩
      obtain ⟨hy, rfl⟩ := h
      rw [nI_toInt (by omega), Int.toNat_natCast, if_pos (by omega)] at hy
      rw [hy]
      have := lc_takeLock (G := G) hQ1 hP1 t X ht hXr ho (by show σ 39 0 + 1 < _; omega)
      unfold lc_V at this
      rw [tb14] at this
      exact bk_T_doNextPart_185 ⟨hQ1.t0 hx, _, _, _, this, ⟨Nat.le_refl _, Nat.le_refl _⟩, fun μ2 h r3 r4 => bk_T_doNextPart_188 ⟨⟨rfl, h⟩, r3, r4⟩⟩
    · subst z
      rw [sp_act_do (by decide) (by decide) (fun z => absurd z.1 (by decide)), sp_do_9]
      have hXr := g5 (Or.inr rfl)
      refine ⟨_, lc_lockOf hQ1 hP1 (nI X), fun y μ2 h r3 r4 => ?_⟩
      obtain ⟨hy, rfl⟩ := h
      rw [nI_toInt (by omega), Int.toNat_natCast, if_pos (by omega)] at hy
      rw [hy]
      have := lc_unlock (G := G) hQ1 hP1 t X ht hXr h26 (by show σ 39 0 + 1 < _; omega)
      unfold lc_V at this
      rw [tb14] at this
      exact bk_T_doNextPart_198 ⟨hQ1.t0 hx, _, _, _, this, ⟨Nat.le_refl _, Nat.le_refl _⟩, fun μ2 h r3 r4 => bk_T_doNextPart_201 ⟨⟨rfl, h⟩, r3, r4⟩⟩
    · subst z
      rw [sp_act_do (by decide) (by decide) (fun z => absurd z.1 (by decide)), sp_do_10]
      have := hP1.sched t ht h11
      rw [tb_0 (σ := σ) (σ' := ss_u (ss_u σ 14 t (σ 14 t + 1)) 19 t 1) rfl]
      refine ⟨cD B 1 (σ 3 t), ?_, hQ.t1 hck, ⟨rfl, _, hQ1.pI 1 6 (σ 3 t) 1 hck (by decide) (by decide), this⟩, rfl, rfl⟩
      rw [hQ.r8_2 hkt, e2]
      rfl
    · subst z
      rw [sp_act_11]
      exact ⟨_, _, _, lc_ends (G := G) hQ1 hPx t ht h11 h19 h26 h15 (Or.inr rfl) (by omega) (by omega), ⟨Nat.le_refl _, Nat.le_refl _⟩, fun μ2 h r3 r4 => bk_T_doNextPart_220 ⟨⟨rfl, h⟩, r3, r4⟩⟩
    · subst z
      rw [sp_act_do (by decide) (by decide) (fun z => absurd z.1 (by decide)), sp_do_12]
      have := lc_putOff (G := G) hQ1 hP1 t X ht (g6 rfl).2 (by show σ 39 0 + 1 < _; omega)
      unfold lc_V at this
      rw [tb14] at this
      exact ⟨_, _, _, this, ⟨Nat.le_refl _, Nat.le_refl _⟩, fun μ2 h r3 r4 => bk_T_doNextPart_229 ⟨⟨rfl, h⟩, r3, r4⟩⟩
    · subst z
      rw [sp_act_do (by decide) (by decide) (fun z => absurd z.1 (by decide)), sp_do_13]
      have := lc_putOn (G := G) hQ1 hP1 t ht (by show σ 39 0 + 1 < _; omega)
      unfold lc_V at this
      rw [tb14] at this
      exact ⟨_, _, _, this, ⟨Nat.le_refl _, Nat.le_refl _⟩, fun μ2 h r3 r4 => bk_T_doNextPart_237 ⟨⟨rfl, h⟩, r3, r4⟩⟩
    · rw [nI_toInt (by omega)] at z
      omega
end CH
