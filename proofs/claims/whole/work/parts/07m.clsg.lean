theorem sp_set_f (σ : ss_S) (t x g j : Nat) (h : g ≠ 11 ∧ g ≠ 12 ∧ g ≠ 17 ∧ g ≠ 21) : sp_set σ t x g j = σ g j := by
  unfold sp_set
  split
  · rw [sp_ready_f _ _ _ _ ⟨h.1, h.2.1, h.2.2.2⟩, ss_uf _ _ _ _ h.2.2.1]
  · rw [ss_uf _ _ _ _ h.2.2.1]
theorem sp_fc_or (σ : ss_S) (t x : Nat) : ∀ n, sp_fc σ t x n = 0 ∨ sp_fc σ t x n = 4 := by
  intro n
  induction n with
  | zero =>
    unfold sp_fc
    split
    · exact Or.inl rfl
    · exact Or.inr rfl
  | succ n ih =>
    unfold sp_fc
    split
    · exact Or.inr rfl
    · exact ih
theorem sp_fc_0 (σ : ss_S) (t x : Nat) : ∀ n, sp_fc σ t x n = 0 ↔ σ 22 x = t ∧ ∀ r, 1 ≤ r → r ≤ n → σ 22 r = t → σ 23 r ≤ σ 23 x := by
  intro n
  induction n with
  | zero =>
    unfold sp_fc
    split
    · rename_i h
      exact ⟨fun _ => ⟨h, fun r h1 h2 => by omega⟩, fun _ => rfl⟩
    · rename_i h
      exact ⟨fun z => by omega, fun z => absurd z.1 h⟩
  | succ n ih =>
    unfold sp_fc
    split
    · rename_i h
      refine ⟨fun z => by omega, fun z => ?_⟩
      have := z.2 (n + 1) (by omega) (by omega) h.1
      omega
    · rename_i h
      rw [ih]
      refine ⟨fun z => ⟨z.1, fun r h1 h2 h3 => ?_⟩, fun z => ⟨z.1, fun r h1 h2 h3 => z.2 r h1 (by omega) h3⟩⟩
      by_cases q : r = n + 1
      · subst q
        apply Decidable.byContradiction
        intro y
        exact h ⟨h3, by omega⟩
      · exact z.2 r h1 (by omega) h3
section CG
variable {G : mj_G} {B : cl_B} {e t0 t1 b : Nat} {σ : ss_S} {c : cc_S} {μ μ0 : mj_MM} {Ex : Option Value → mj_MM → Prop} {N S : Nat}
theorem lc_mayBeSet (hQ : cl_Q B c μ0 μ) (hP : REP B e t0 t1 σ c) (t : Nat) (ht : 1 ≤ t ∧ t ≤ σ 1 0) : mj_M G my_K_mayBeSet mY_K_mayBeSet [va_rf (some (cD B 8 t))] (mj_nc μ) (mj_ns μ) μ (mj_XI (fun x μ' => x = (if σ 5 t ≠ 0 ∧ σ 11 t ≠ 0 then 1 else 0) ∧ μ' = μ)) := by
  have hkt := hP.k ht
  have e4 : c 8 4 t = σ 5 t := (hP.h2 t ht).2.2.2.2.1
  have e9 : c 8 9 t = σ 11 t := hP.h3.1 t ht
  have b4 := hQ.b 8 4 t (by decide)
  have b9 := hQ.b 8 9 t (by decide)
  rw [e4] at b4
  rw [e9] at b9
  refine mj_of (by decide) rfl (by decide) (Nat.le_of_ble_eq_true rfl) rfl ⟨Nat.le_refl _, Nat.le_refl _⟩ ?_
  refine bk_K_mayBeSet_0 ?_
  simp (disch := first | decide | assumption | omega) only [hQ.t0, hQ.t1, hQ.t2, hQ.t3, hQ.t4, hQ.t5, hQ.t6, hQ.t7, hQ.t8, hQ.t9, hQ.ta0, hQ.ta1, hQ.ta2, hQ.ta3, hQ.tb, hQ.e0, hQ.e1, hQ.e2, hQ.e3, hQ.i0_8, hQ.i0_9, hQ.i0_10, hQ.i0_11, hQ.i0_12, hQ.r0_0, hQ.r0_1, hQ.r0_2, hQ.r0_3, hQ.r0_4, hQ.r0_5, hQ.r0_6, hQ.r0_7, hQ.i1_0, hQ.i1_5, hQ.i1_6, hQ.r1_1, hQ.r1_2, hQ.r1_3, hQ.r1_4, hQ.i2_0, hQ.i2_1, hQ.i2_2, hQ.r2_3, hQ.i3_1, hQ.i3_3, hQ.r3_0, hQ.r3_2, hQ.r4_0, hQ.r4_1, hQ.i5_1, hQ.i5_2, hQ.r5_0, hQ.i6_0, hQ.i6_1, hQ.r6_2, hQ.i7_0, hQ.r7_1, hQ.r7_2, hQ.i8_0, hQ.i8_1, hQ.i8_3, hQ.i8_4, hQ.i8_5, hQ.i8_8, hQ.i8_9, hQ.i8_10, hQ.i8_11, hQ.i8_12, hQ.i8_13, hQ.i8_14, hQ.i8_16, hQ.r8_2, hQ.r8_6, hQ.r8_7, hQ.r8_15, hQ.r8_17, hQ.r8_18, hQ.i9_1, hQ.r9_0, hQ.r9_2, Option.some.injEq, exists_eq_left', nI_clamp, nI_1, mj_vin, true_and, eq_self, e4, e9, mj_z0]
  refine ⟨fun q => ?_, fun q => ⟨fun q2 => ?_, fun q2 => ?_⟩⟩
  · rw [if_neg (fun z => z.1 q)]
    exact ⟨⟨_, rfl, rfl, rfl⟩, (by first | exact ⟨rfl, rfl⟩ | trivial)⟩
  · rw [if_neg (fun z => z.2 q2)]
    exact ⟨⟨_, rfl, rfl, rfl⟩, (by first | exact ⟨rfl, rfl⟩ | trivial)⟩
  · rw [if_pos ⟨q, q2⟩]
    exact ⟨⟨_, rfl, rfl, rfl⟩, (by first | exact ⟨rfl, rfl⟩ | trivial)⟩
theorem lc_setBy (hQ : cl_Q B c μ0 μ) (hP : REP B e 0 0 σ c) (t x y : Nat) (ht : 1 ≤ t ∧ t ≤ σ 1 0) (hx1 : x < 2 ^ 31) (hy : y < 65536) (hb : σ 21 0 + 1 < 2 ^ 31) (hB : σ 39 0 + 1 < 2 ^ 31) :
    lc_V G my_T_setByTask mY_T_setByTask B e 0 0 σ (if 1 ≤ x ∧ x ≤ σ 1 0 then (if σ 5 x ≠ 0 ∧ σ 11 x ≠ 0 then sp_set σ x y else sp_tell σ 5 t) else sp_tell σ 8 t) μ0 μ [va_rf (some (cD B 8 t)), .int (nI x), .int (nI y)] := by
  have hx := hP.x
  refine mj_of (by decide) rfl (by decide) (Nat.le_of_ble_eq_true rfl) rfl ⟨Nat.le_add_right _ _, Nat.le_add_right _ _⟩ ?_
  refine bk_T_setByTask_0 ⟨hQ.t0 hx, _, lc_taskOf hQ hP (nI x), fun y μ1 h r1 r2 => ?_⟩
  obtain ⟨hy, rfl⟩ := h
  rw [nI_toInt hx1, Int.toNat_natCast] at hy
  by_cases z : 1 ≤ x ∧ x ≤ σ 1 0
  · rw [if_pos (by omega)] at hy
    rw [if_pos z, hy]
    refine bk_T_setByTask_5 ⟨fun q => (by cases q), fun b q => ?_⟩
    cases q
    refine ⟨hQ.t8 (hP.k z), _, lc_mayBeSet hQ hP x z, fun w μ2 h r3 r4 => ?_⟩
    obtain ⟨rfl, rfl⟩ := h
    by_cases q : σ 5 x ≠ 0 ∧ σ 11 x ≠ 0
    · rw [if_pos q, if_pos q, tb_0 (sp_set_f σ x _ 39 0 (by decide))]
      exact bk_T_setByTask_27 ⟨fun _ => ⟨hQ.t0 hx, _, lc_setEvents hQ hP x _ z ‹_› hb, fun μ3 h r5 r6 => bk_T_setByTask_46 ⟨⟨rfl, h⟩, r5, r6⟩⟩, fun z => absurd z (by decide)⟩
    · rw [if_neg q, if_neg q]
      exact bk_T_setByTask_27 ⟨fun z => absurd rfl z, fun _ => ⟨hQ.t0 hx, _, _, _, lc_tell hQ hP hB 5 t (by decide) ht, ⟨Nat.le_refl _, Nat.le_refl _⟩, fun μ3 h r5 r6 => bk_T_setByTask_36 (bk_T_setByTask_46 ⟨⟨rfl, h⟩, r5, r6⟩)⟩⟩
  · rw [if_neg (by omega)] at hy
    rw [if_neg z, hy]
    exact bk_T_setByTask_5 ⟨fun q => ⟨hQ.t0 hx, _, _, _, lc_tell hQ hP hB 8 t (by decide) ht, ⟨Nat.le_refl _, Nat.le_refl _⟩, fun μ2 h r3 r4 => bk_T_setByTask_19 (bk_T_setByTask_46 ⟨⟨rfl, h⟩, r3, r4⟩)⟩, fun b q => (by cases q)⟩
theorem REP.ev (hP : REP B e t0 t1 σ c) (t v : Nat) (ht : 1 ≤ t ∧ t ≤ σ 1 0) (hv : v < 65536) : REP B e t0 t1 (ss_u σ 17 t v) (cc_u c 8 12 t v) := by
  have hl := hP.k ht
  obtain ⟨hb, h1, h2, ⟨h3a, h3b, h3c, h3d, h3e, h3f⟩, h4, h5, h6, h7, h8, h9, h10, h11, h12, h13, ⟨h14a, h14b, h14c⟩, h15, h16⟩ := hP
  refine ⟨hb, h1, h2, ⟨h3a, h3b, h3c, eq_u h3d t _, h3e, h3f⟩, h4, h5, h6, h7, h8, h9, h10, h11, h12, h13, ⟨h14a.ev t _ hv, h14b, fun t' ht' => ?_⟩, h15, h16.u 8 12 t _ (Or.inl hl)⟩
  have q3 : t' ≠ t := fun q => by
    have : σ 1 0 < t' := ht'
    omega
  have this := h14c t' ht'
  simp [ss_u, q3]
  exact this
theorem lc_clear (hQ : cl_Q B c μ0 μ) (hP : REP B e 0 0 σ c) (t x : Nat) (ht : 1 ≤ t ∧ t ≤ σ 1 0) (hB : σ 39 0 + 1 < 2 ^ 31) :
    lc_V G my_T_clearEvents mY_T_clearEvents B e 0 0 σ (if σ 5 t = 0 then sp_tell (ss_u σ 17 t (σ 17 t)) 2 t else ss_u σ 17 t (ev_clr (σ 17 t) x)) μ0 μ [va_rf (some (cD B 8 t)), .int (nI x)] := by
  have hx := hP.x
  have hkt := hP.k ht
  have e4 : c 8 4 t = σ 5 t := (hP.h2 t ht).2.2.2.2.1
  have e12 : c 8 12 t = σ 17 t := hP.h3.2.2.2.1 t ht
  have b4 := hQ.b 8 4 t (by decide)
  rw [e4] at b4
  have h17 := hP.v.2.2.2.2.2.2.2.2.1 t
  have hle := ev_clr_le (a := σ 17 t) x (by omega)
  rw [ss_id (σ := σ) (f := 17) (i := t) (v := σ 17 t) rfl]
  refine mj_of (by decide) rfl (by decide) (Nat.le_of_ble_eq_true rfl) rfl ⟨Nat.le_add_right _ _, Nat.le_add_right _ _⟩ ?_
  refine bk_T_clearEvents_0 ?_
  simp (disch := first | decide | assumption | omega) only [hQ.t0, hQ.t1, hQ.t2, hQ.t3, hQ.t4, hQ.t5, hQ.t6, hQ.t7, hQ.t8, hQ.t9, hQ.ta0, hQ.ta1, hQ.ta2, hQ.ta3, hQ.tb, hQ.e0, hQ.e1, hQ.e2, hQ.e3, hQ.i0_8, hQ.i0_9, hQ.i0_10, hQ.i0_11, hQ.i0_12, hQ.r0_0, hQ.r0_1, hQ.r0_2, hQ.r0_3, hQ.r0_4, hQ.r0_5, hQ.r0_6, hQ.r0_7, hQ.i1_0, hQ.i1_5, hQ.i1_6, hQ.r1_1, hQ.r1_2, hQ.r1_3, hQ.r1_4, hQ.i2_0, hQ.i2_1, hQ.i2_2, hQ.r2_3, hQ.i3_1, hQ.i3_3, hQ.r3_0, hQ.r3_2, hQ.r4_0, hQ.r4_1, hQ.i5_1, hQ.i5_2, hQ.r5_0, hQ.i6_0, hQ.i6_1, hQ.r6_2, hQ.i7_0, hQ.r7_1, hQ.r7_2, hQ.i8_0, hQ.i8_1, hQ.i8_3, hQ.i8_4, hQ.i8_5, hQ.i8_8, hQ.i8_9, hQ.i8_10, hQ.i8_11, hQ.i8_12, hQ.i8_13, hQ.i8_14, hQ.i8_16, hQ.r8_2, hQ.r8_6, hQ.r8_7, hQ.r8_15, hQ.r8_17, hQ.r8_18, hQ.i9_1, hQ.r9_0, hQ.r9_2, Option.some.injEq, exists_eq_left', nI_clamp, nI_1, mj_vin, true_and, eq_self, e4, e12, mj_z0]
  refine ⟨fun q => ?_, fun q => ?_⟩
  · rw [if_pos q]
    exact ⟨_, _, _, lc_tell hQ hP hB 2 t (by decide) ht, ⟨Nat.le_refl _, Nat.le_refl _⟩, fun μ2 h r3 r4 => bk_T_clearEvents_28 ⟨⟨rfl, h⟩, r3, r4⟩⟩
  · rw [if_neg q, tb_0 (σ := σ) (σ' := ss_u σ 17 t (ev_clr (σ 17 t) x)) rfl, ← ev_clr_nI]
    exact bk_T_clearEvents_28 ⟨⟨rfl, _, hQ.pI 8 12 t _ hkt (by decide) (by omega), hP.ev t _ ht (by omega)⟩, rfl, rfl⟩
theorem REP.get (hP : REP B e t0 t1 σ c) (t x : Nat) (ht : 1 ≤ t ∧ t ≤ σ 1 0) (hx : 1 ≤ x ∧ x ≤ 32) (h0 : σ 22 x = 0) : REP B e t0 t1 (ss_u (ss_u (ss_u σ 28 0 (σ 28 0 + 1)) 22 x t) 23 x (σ 28 0 + 1)) (cc_u (cc_u (cc_u c 7 1 x (t + 1)) 7 2 x (c 8 15 t)) 8 15 t (x + 1)) := by
  have hkt := hP.k ht
  have hrx := hP.re (r := x) (by omega)
  obtain ⟨hb, h1, h2, h3, h4, h5, h6, h7, ⟨h8a, h8b, h8c⟩, ⟨h9a, h9b, h9c, h9d⟩, h10, h11, h12, h13, h14, h15, h16⟩ := hP
  refine ⟨hb, h1, h2, h3, h4, h5, h6, h7, ⟨fun r g1 g2 => ?_, fun r => ?_, fun t' ht' => ?_⟩, ⟨h9a, h9b, ⟨fun t' => ?_, h9c.2⟩, h9d⟩, h10, h11, h12, h13, h14, h15, ((h16.u 7 1 x _ (Or.inl hrx)).u 7 2 x _ (Or.inl hrx)).u 8 15 t _ (Or.inl hkt)⟩
  · show cc_u c 7 1 x (t + 1) 7 1 r = enc (ss_u σ 22 x t 22 r) ∧ (ss_u σ 22 x t 22 r ≠ 0 → ss_u σ 22 x t 22 r ≤ σ 1 0)
    rw [cc_ue, ss_ue]
    by_cases q : r = x
    · rw [if_pos q, if_pos q, enc_s (by omega)]
      exact ⟨rfl, fun _ => ht.2⟩
    · rw [if_neg q, if_neg q]
      exact h8a r g1 g2
  · show ss_u σ 23 x (σ 28 0 + 1) 23 r ≤ σ 28 0 + 1
    rw [ss_ue]
    have := h8b r
    split <;> omega
  · obtain ⟨L, w1, w2, w3⟩ := h8c t' ht'
    have hnx : x ∉ L := fun z => by
      have := ((w2 x).mp z).2
      omega
    show ∃ L, ch (cc_u _ 7 2 x (c 8 15 t) 7 2) (cc_u _ 8 15 t (x + 1) 8 15 t') L ∧ (∀ r, r ∈ L ↔ (1 ≤ r ∧ r ≤ 32) ∧ ss_u σ 22 x t 22 r = t') ∧ L.Pairwise (fun a b => ss_u σ 23 x (σ 28 0 + 1) 23 b < ss_u σ 23 x (σ 28 0 + 1) 23 a)
    have hch : ch (cc_u (cc_u c 7 1 x (t + 1)) 7 2 x (c 8 15 t) 7 2) (c 8 15 t') L := ch_congr L _ (fun y hy => by
      rw [cc_ui _ _ _ _ (fun z => hnx (by rw [← z]; exact hy))]
      rfl) w1
    have hpw : L.Pairwise (fun a b => ss_u σ 23 x (σ 28 0 + 1) 23 b < ss_u σ 23 x (σ 28 0 + 1) 23 a) := w3.imp_of_mem (fun {a b} ha hb h => by
      rw [ss_ui _ _ _ _ (fun z => hnx (by rw [← z]; exact hb)), ss_ui _ _ _ _ (fun z => hnx (by rw [← z]; exact ha))]
      exact h)
    by_cases q : t' = t
    · subst q
      refine ⟨x :: L, ⟨?_, ?_⟩, fun r => ?_, List.pairwise_cons.mpr ⟨fun y hy => ?_, hpw⟩⟩
      · rw [cc_us]
      · rw [cc_us]
        exact hch
      · rw [List.mem_cons, w2 r, ss_ue]
        by_cases z : r = x
        · rw [if_pos z]
          exact ⟨fun _ => ⟨by omega, rfl⟩, fun _ => Or.inl z⟩
        · rw [if_neg z]
          exact ⟨fun y => y.resolve_left z, fun y => Or.inr y⟩
      · rw [ss_us, ss_ui _ _ _ _ (fun z => hnx (by rw [← z]; exact hy))]
        have := h8b y
        omega
    · refine ⟨L, ?_, fun r => ?_, hpw⟩
      · rw [cc_ui _ _ _ _ q]
        exact hch
      · rw [w2 r, ss_ue]
        by_cases z : r = x
        · rw [if_pos z, z, h0]
          exact ⟨fun y => by omega, fun y => by omega⟩
        · rw [if_neg z]
  · show σ 27 t' ≤ σ 28 0 + 1
    have := h9c.1 t'
    omega
theorem lc_get (hQ : cl_Q B c μ0 μ) (hP : REP B e 0 0 σ c) (t x : Nat) (ht : 1 ≤ t ∧ t ≤ σ 1 0) (hx1 : 1 ≤ x ∧ x ≤ 32) (hB : σ 39 0 + 1 < 2 ^ 31) :
    lc_V G my_T_getResource mY_T_getResource B e 0 0 σ (if σ 22 x = 0 then ss_u (ss_u (ss_u σ 28 0 (σ 28 0 + 1)) 22 x t) 23 x (σ 28 0 + 1) else sp_tell σ 4 t) μ0 μ [va_rf (some (cD B 8 t)), va_rf (some (cD B 7 x))] := by
  have hx := hP.x
  have hkt := hP.k ht
  have hrx := hP.re (r := x) (by omega)
  have hT := hP.v.1
  have e1 := (hP.h8.1 x hx1.1 hx1.2).1
  have b15 := hQ.b 8 15 t (by decide)
  have t15 := hQ.l8_15 hkt
  refine mj_of (by decide) rfl (by decide) (Nat.le_of_ble_eq_true rfl) rfl ⟨Nat.le_add_right _ _, Nat.le_add_right _ _⟩ ?_
  refine bk_T_getResource_0 ⟨fun z => (by cases z), fun b z => ?_⟩
  cases z
  by_cases q : σ 22 x = 0
  · rw [q] at e1
    have e1' : c 7 1 x = 0 := e1
    rw [if_pos q, tb_0 (σ := σ) (σ' := ss_u (ss_u (ss_u σ 28 0 (σ 28 0 + 1)) 22 x t) 23 x (σ 28 0 + 1)) rfl]
    simp (disch := first | decide | assumption | omega) only [hQ.t0, hQ.t1, hQ.t2, hQ.t3, hQ.t4, hQ.t5, hQ.t6, hQ.t7, hQ.t8, hQ.t9, hQ.ta0, hQ.ta1, hQ.ta2, hQ.ta3, hQ.tb, hQ.e0, hQ.e1, hQ.e2, hQ.e3, hQ.i0_8, hQ.i0_9, hQ.i0_10, hQ.i0_11, hQ.i0_12, hQ.r0_0, hQ.r0_1, hQ.r0_2, hQ.r0_3, hQ.r0_4, hQ.r0_5, hQ.r0_6, hQ.r0_7, hQ.i1_0, hQ.i1_5, hQ.i1_6, hQ.r1_1, hQ.r1_2, hQ.r1_3, hQ.r1_4, hQ.i2_0, hQ.i2_1, hQ.i2_2, hQ.r2_3, hQ.i3_1, hQ.i3_3, hQ.r3_0, hQ.r3_2, hQ.r4_0, hQ.r4_1, hQ.i5_1, hQ.i5_2, hQ.r5_0, hQ.i6_0, hQ.i6_1, hQ.r6_2, hQ.i7_0, hQ.r7_1, hQ.r7_2, hQ.i8_0, hQ.i8_1, hQ.i8_3, hQ.i8_4, hQ.i8_5, hQ.i8_8, hQ.i8_9, hQ.i8_10, hQ.i8_11, hQ.i8_12, hQ.i8_13, hQ.i8_14, hQ.i8_16, hQ.r8_2, hQ.r8_6, hQ.r8_7, hQ.r8_15, hQ.r8_17, hQ.r8_18, hQ.i9_1, hQ.r9_0, hQ.r9_2, Option.some.injEq, exists_eq_left', nI_clamp, nI_1, mj_vin, true_and, eq_self, e1', cl_ref_0]
    refine ⟨fun _ => ?_, fun b z => (by cases z)⟩
    exact ⟨⟨rfl, _, ((hQ.pR 7 1 x (t + 1) hrx (by decide) (by omega) (Or.inr hkt)).pR 7 2 x (c 8 15 t) hrx (by decide) b15 t15).pR 8 15 t (x + 1) hkt (by decide) (by omega) (Or.inr hrx), hP.get t x ht hx1 q⟩, (by first | exact ⟨rfl, rfl⟩ | trivial)⟩
  · rw [enc_s q] at e1
    rw [if_neg q]
    simp (disch := first | decide | assumption | omega) only [hQ.t0, hQ.t1, hQ.t2, hQ.t3, hQ.t4, hQ.t5, hQ.t6, hQ.t7, hQ.t8, hQ.t9, hQ.ta0, hQ.ta1, hQ.ta2, hQ.ta3, hQ.tb, hQ.e0, hQ.e1, hQ.e2, hQ.e3, hQ.i0_8, hQ.i0_9, hQ.i0_10, hQ.i0_11, hQ.i0_12, hQ.r0_0, hQ.r0_1, hQ.r0_2, hQ.r0_3, hQ.r0_4, hQ.r0_5, hQ.r0_6, hQ.r0_7, hQ.i1_0, hQ.i1_5, hQ.i1_6, hQ.r1_1, hQ.r1_2, hQ.r1_3, hQ.r1_4, hQ.i2_0, hQ.i2_1, hQ.i2_2, hQ.r2_3, hQ.i3_1, hQ.i3_3, hQ.r3_0, hQ.r3_2, hQ.r4_0, hQ.r4_1, hQ.i5_1, hQ.i5_2, hQ.r5_0, hQ.i6_0, hQ.i6_1, hQ.r6_2, hQ.i7_0, hQ.r7_1, hQ.r7_2, hQ.i8_0, hQ.i8_1, hQ.i8_3, hQ.i8_4, hQ.i8_5, hQ.i8_8, hQ.i8_9, hQ.i8_10, hQ.i8_11, hQ.i8_12, hQ.i8_13, hQ.i8_14, hQ.i8_16, hQ.r8_2, hQ.r8_6, hQ.r8_7, hQ.r8_15, hQ.r8_17, hQ.r8_18, hQ.i9_1, hQ.r9_0, hQ.r9_2, Option.some.injEq, exists_eq_left', nI_clamp, nI_1, mj_vin, true_and, eq_self, e1, cl_ref_s]
    refine ⟨fun z => (by cases z), fun b z => ?_⟩
    exact ⟨_, _, _, lc_tell hQ hP hB 4 t (by decide) ht, ⟨Nat.le_refl _, Nat.le_refl _⟩, fun μ2 h r3 r4 => bk_T_getResource_17 ⟨⟨rfl, h⟩, r3, r4⟩⟩
theorem REP.freeR (hP : REP B e t0 t1 σ c) (t x : Nat) (ht : 1 ≤ t ∧ t ≤ σ 1 0) (hx : 1 ≤ x ∧ x ≤ 32) (h0 : c 8 15 t = x + 1) : REP B e t0 t1 (ss_u σ 22 x 0) (cc_u (cc_u c 7 1 x 0) 8 15 t (c 7 2 x)) := by
  have hkt := hP.k ht
  have hrx := hP.re (r := x) (by omega)
  obtain ⟨hb, h1, h2, h3, h4, h5, h6, h7, ⟨h8a, h8b, h8c⟩, h9, h10, h11, h12, h13, h14, h15, h16⟩ := hP
  refine ⟨hb, h1, h2, h3, h4, h5, h6, h7, ⟨fun r g1 g2 => ?_, h8b, fun t' ht' => ?_⟩, h9, h10, h11, h12, h13, h14, h15, (h16.u 7 1 x _ (Or.inl hrx)).u 8 15 t _ (Or.inl hkt)⟩
  · show cc_u c 7 1 x 0 7 1 r = enc (ss_u σ 22 x 0 22 r) ∧ (ss_u σ 22 x 0 22 r ≠ 0 → ss_u σ 22 x 0 22 r ≤ σ 1 0)
    rw [cc_ue, ss_ue]
    by_cases q : r = x
    · rw [if_pos q, if_pos q]
      exact ⟨rfl, fun z => absurd rfl z⟩
    · rw [if_neg q, if_neg q]
      exact h8a r g1 g2
  · obtain ⟨L, w1, w2, w3⟩ := h8c t' ht'
    show ∃ L, ch (c 7 2) (cc_u _ 8 15 t (c 7 2 x) 8 15 t') L ∧ (∀ r, r ∈ L ↔ (1 ≤ r ∧ r ≤ 32) ∧ ss_u σ 22 x 0 22 r = t') ∧ L.Pairwise (fun a b => σ 23 b < σ 23 a)
    by_cases q : t' = t
    · subst q
      rw [h0] at w1
      cases L with
      | nil => exact absurd w1 (by show x + 1 ≠ 0; omega)
      | cons y L =>
        have hy : y = x := by
          have := w1.1
          omega
        subst hy
        have hpw := List.pairwise_cons.mp w3
        have hny : y ∉ L := fun z => by
          have := hpw.1 y z
          omega
        refine ⟨L, ?_, fun r => ?_, hpw.2⟩
        · rw [cc_us]
          exact w1.2
        · rw [ss_ue]
          have := w2 r
          rw [List.mem_cons] at this
          by_cases z : r = y
          · rw [if_pos z, z]
            exact ⟨fun q => absurd q hny, fun q => by omega⟩
          · rw [if_neg z, ← this]
            exact ⟨fun y => Or.inr y, fun y => y.resolve_left z⟩
    · refine ⟨L, ?_, fun r => ?_, w3⟩
      · rw [cc_ui _ _ _ _ q]
        exact w1
      · rw [w2 r, ss_ue]
        by_cases z : r = x
        · obtain ⟨L2, v1, v2, v3⟩ := h8c t ht
          rw [h0] at v1
          have hx2 : σ 22 x = t := by
            cases L2 with
            | nil => exact absurd v1 (by show x + 1 ≠ 0; omega)
            | cons y L2 =>
              have hy : y = x := by
                have := v1.1
                omega
              subst hy
              exact ((v2 y).mp (List.mem_cons_self ..)).2
          rw [if_pos z, z, hx2]
          exact ⟨fun y => by omega, fun y => by omega⟩
        · rw [if_neg z]
theorem REP.last (hP : REP B e t0 t1 σ c) (t x : Nat) (ht : 1 ≤ t ∧ t ≤ σ 1 0) (hx : 1 ≤ x ∧ x ≤ 32) : (x + 1 = c 8 15 t) = (sp_fc σ t x 32 = 0) := by
  obtain ⟨L, w1, w2, w3⟩ := hP.h8.2.2 t ht
  rw [sp_fc_0]
  apply propext
  constructor
  · intro h
    rw [← h] at w1
    cases L with
    | nil => exact absurd w1 (by show x + 1 ≠ 0; omega)
    | cons y L =>
      have hy : y = x := by
        have := w1.1
        omega
      subst hy
      refine ⟨((w2 y).mp (List.mem_cons_self ..)).2, fun r g1 g2 g3 => ?_⟩
      have := (w2 r).mpr ⟨⟨g1, g2⟩, g3⟩
      rcases List.mem_cons.mp this with z | z
      · rw [z]
        exact Nat.le_refl _
      · exact Nat.le_of_lt ((List.pairwise_cons.mp w3).1 r z)
  · intro h
    have hm := (w2 x).mpr ⟨hx, h.1⟩
    cases L with
    | nil => cases hm
    | cons y L =>
      have hy := (w2 y).mp (List.mem_cons_self ..)
      have e1 : c 8 15 t = y + 1 := w1.1
      rw [e1]
      rcases List.mem_cons.mp hm with z | z
      · rw [z]
      · have a1 := (List.pairwise_cons.mp w3).1 x z
        have a2 := h.2 y hy.1.1 hy.1.2 hy.2
        omega
theorem lc_freeR (hQ : cl_Q B c μ0 μ) (hP : REP B e 0 0 σ c) (t x : Nat) (ht : 1 ≤ t ∧ t ≤ σ 1 0) (hx1 : 1 ≤ x ∧ x ≤ 32) (hB : σ 39 0 + 1 < 2 ^ 31) :
    lc_V G my_T_freeResource mY_T_freeResource B e 0 0 σ (sp_code (ss_u σ 22 x (if sp_fc σ t x 32 = 0 then 0 else σ 22 x)) t (sp_fc σ t x 32)) μ0 μ [va_rf (some (cD B 8 t)), va_rf (some (cD B 7 x))] := by
  have hx := hP.x
  have hkt := hP.k ht
  have hrx := hP.re (r := x) (by omega)
  have b72 := hQ.b 7 2 x (by decide)
  have t72 := hQ.l7_2 hrx
  have el : (some (cD B 7 x) = cl_ref B 7 (c 8 15 t)) = (sp_fc σ t x 32 = 0) := by
    rw [← hP.last t x ht hx1, show some (cD B 7 x) = cl_ref B 7 (x + 1) from rfl]
    exact cl_ref_inj hQ.1 (Or.inr hrx) (hQ.l8_15 hkt)
  refine mj_of (by decide) rfl (by decide) (Nat.le_of_ble_eq_true rfl) rfl ⟨Nat.le_add_right _ _, Nat.le_add_right _ _⟩ ?_
  refine bk_T_freeResource_0 ⟨fun z => (by cases z), fun b z => ⟨_, rfl, hQ.t8 hkt, ?_⟩⟩
  cases z
  rw [hQ.r8_15 hkt, el]
  refine ⟨fun q => ⟨hQ.t7 hrx, ?_⟩, fun q => ⟨hQ.t0 hx, ?_⟩⟩
  · have h0 := hP.last t x ht hx1
    have h0' : c 8 15 t = x + 1 := by
      rw [← h0] at q
      exact q.symm
    rw [q, if_pos rfl]
    unfold sp_code
    rw [if_pos rfl, tb_0 (σ := σ) (σ' := ss_u σ 22 x 0) rfl, hQ.r7_2 hrx]
    exact ⟨⟨rfl, _, (hQ.pR 7 1 x 0 hrx (by decide) (by decide) (Or.inl rfl)).pR 8 15 t (c 7 2 x) hkt (by decide) b72 t72, hP.freeR t x ht hx1 h0'⟩, rfl, rfl⟩
  · have e4 := (sp_fc_or σ t x 32).resolve_left q
    rw [if_neg q, ss_id rfl, e4]
    unfold sp_code
    rw [if_neg (by decide)]
    exact ⟨_, _, _, lc_tell hQ hP hB 4 t (by decide) ht, ⟨Nat.le_refl _, Nat.le_refl _⟩, fun μ2 h r3 r4 => bk_T_freeResource_18 ⟨⟨rfl, h⟩, r3, r4⟩⟩
end CG
