theorem sp_begin_39 (σ : ss_S) (t : Nat) : σ 39 0 ≤ sp_begin σ t 39 0 ∧ sp_begin σ t 39 0 ≤ σ 39 0 + 1 := by
  unfold sp_begin
  split
  · exact ⟨Nat.le_refl _, Nat.le_succ _⟩
  · split
    · exact ⟨Nat.le_refl _, Nat.le_succ _⟩
    · rw [sp_tell_39]
      omega
theorem sp_ends_39 (σ : ss_S) (t : Nat) : σ 39 0 ≤ sp_ends σ t 39 0 ∧ sp_ends σ t 39 0 ≤ σ 39 0 + 1 := by
  rw [sp_ends_T, sp_endT_39]
  have := sp_fr3_f σ t 39 0 (by decide)
  unfold sp_fr4
  split
  · rw [sp_tell_39]
    omega
  · omega
theorem sp_ends_21 (σ : ss_S) (t : Nat) : sp_ends σ t 21 0 ≤ σ 21 0 + 1 := by
  rw [sp_ends_T]
  have e : sp_fr4 σ t 21 0 = σ 21 0 := by
    have := sp_fr3_f σ t 21 0 (by decide)
    unfold sp_fr4
    split
    · rw [sp_tell_f _ _ _ _ _ (by decide)]
      exact this
    · exact this
  generalize sp_fr4 σ t = τ at e ⊢
  unfold sp_endT
  split
  · show τ 21 0 ≤ _
    omega
  · unfold sp_begin
    rw [if_pos (show ss_u (ss_u (ss_u τ 11 t 0) 19 t 0) 13 t _ 11 t = 0 from ss_us τ 11 t 0)]
    show τ 21 0 + 1 ≤ _
    omega
/-- a chain to the task itself -/
theorem sp_chain_self (σ : ss_S) (t : Nat) (hw : σ 13 t + 1 ≤ σ 4 t) : sp_begin (sp_ends σ t) t = sp_begin (sp_free σ t) t := by
  have h13 : sp_free σ t 13 t = σ 13 t := sp_free_f σ t 13 t (by decide)
  have h4 : sp_free σ t 4 t = σ 4 t := sp_free_f σ t 4 t (by decide)
  have h11 : sp_free σ t 11 t = 0 := by
    unfold sp_free
    generalize sp_fr4 σ t = τ
    exact ss_us τ 11 t 0
  unfold sp_ends
  by_cases h : sp_free σ t 13 t = 0
  · rw [if_pos h]
  · rw [if_neg h]
    generalize sp_free σ t = φ at *
    have e1 : sp_begin (ss_u φ 13 t (φ 13 t - 1)) t = sp_start (ss_u φ 13 t (φ 13 t - 1)) t := by
      unfold sp_begin sp_start
      rw [if_pos (show ss_u φ 13 t (φ 13 t - 1) 11 t = 0 from h11)]
    have e2 : sp_begin φ t = sp_start φ t := by
      unfold sp_begin sp_start
      rw [if_pos h11]
    rw [e1, e2]
    have f11 : sp_start (ss_u φ 13 t (φ 13 t - 1)) t 11 t = 1 := by simp [sp_start, sp_ready, ss_u]
    have f13 : sp_start (ss_u φ 13 t (φ 13 t - 1)) t 13 t = φ 13 t - 1 := by simp [sp_start, sp_ready, ss_u]
    have f4 : sp_start (ss_u φ 13 t (φ 13 t - 1)) t 4 t = φ 4 t := by simp [sp_start, sp_ready, ss_u]
    unfold sp_begin
    rw [if_neg (by omega), if_pos (by omega), f13, show φ 13 t - 1 + 1 = φ 13 t by omega]
    funext g j
    by_cases hg : g = 13
    · subst hg
      by_cases hj : j = t
      · subst hj
        simp [sp_start, sp_ready, ss_u]
      · simp [sp_start, sp_ready, ss_u, hj]
    · simp [sp_start, sp_ready, ss_u, hg]
section CF
variable {G : mj_G} {B : cl_B} {e t0 t1 b : Nat} {σ : ss_S} {c : cc_S} {μ μ0 : mj_MM} {Ex : Option Value → mj_MM → Prop} {N S : Nat}
theorem REP.advx (hP : REP B e 0 0 σ c) (t v : Nat) (ht : 1 ≤ t ∧ t ≤ σ 1 0) : REP B e 0 t σ (cc_u c 8 7 t v) := by
  have hkt := hP.k ht
  obtain ⟨hb, h1, h2, h3, h4, h5, h6, ⟨h7a, h7b, h7c⟩, h8, h9, h10, h11, h12, h13, h14, h15, h16⟩ := hP
  refine ⟨hb, h1, h2, h3, h4, h5, h6, ⟨fun t' ht' hn hs => ?_, h7b, h7c⟩, h8, h9, h10, h11, h12, h13, h14, h15, h16.u 8 7 t _ (Or.inl hkt)⟩
  rw [cc_ui _ _ _ _ hn]
  exact h7a t' ht' (by omega) hs
theorem REP.adv (hP : REP B e 0 0 σ c) (t k : Nat) (ht : 1 ≤ t ∧ t ≤ σ 1 0) (h11 : σ 11 t ≠ 0) (h16' : σ 16 t = 0) (h26 : σ 26 t = 0) (h15 : σ 15 t = 0) (hk : pq (σ 8) (σ 7 0) t (σ 14 t) = k + 1) : REP B e 0 0 (ss_u σ 14 t (σ 14 t + 1)) (cc_u c 8 7 t (c 6 2 k)) := by
  have hkt := hP.k ht
  obtain ⟨n1, n2, n3⟩ := pq_next hk
  obtain ⟨hb, h1, h2, h3, h4, h5, h6, ⟨h7a, h7b, h7c⟩, h8, ⟨h9a, h9b, h9c, h9d⟩, h10, h11', h12, h13, ⟨h14a, h14b, h14c⟩, h15', h16⟩ := hP
  refine ⟨hb, h1, h2, h3, h4, h5, h6, ⟨fun t' ht' hn hs => ?_, h7b, fun t' ht' q1 q2 q3 => ?_⟩, h8, ⟨h9a, h9b, h9c, fun t' ht' hs => ?_⟩, h10, h11', h12, h13, ⟨h14a, h14b, fun t' ht' => ?_⟩, h15', h16.u 8 7 t _ (Or.inl hkt)⟩
  · show cc_u c 8 7 t (c 6 2 k) 8 7 t' = if σ 16 t' = 0 then pq (σ 8) (σ 7 0) t' (ss_u σ 14 t (σ 14 t + 1) 14 t') else 1000 + t' + 1
    rw [cc_ue, ss_ue]
    by_cases q : t' = t
    · rw [if_pos q, if_pos q, q, if_pos h16', n1, (h6.1 k n3).2.2.1, n2]
    · rw [if_neg q, if_neg q]
      exact h7a t' ht' hn hs
  · have q : t' ≠ t := fun q => by
      rw [q] at q3
      exact q3 h15
    show 2 ≤ σ 15 t' ∧ ∃ k, pq (σ 8) (σ 7 0) t' (ss_u σ 14 t (σ 14 t + 1) 14 t') = k + 1 ∧ σ 9 k = 0 ∧ c 8 8 t' + σ 15 t' = σ 10 k + 1
    rw [ss_ui _ _ _ _ q]
    exact h7c t' ht' q1 q2 q3
  · have q : t' ≠ t := fun q => by
      subst q
      exact hs h26
    show σ 26 t' ≤ 16 ∧ σ 11 t' ≠ 0 ∧ σ 16 t' = 0 ∧ σ 15 t' = 0 ∧ σ 25 (σ 26 t') ≠ 0 ∧ σ 25 (σ 26 t') ≠ t' ∧ ∃ k, pq (σ 8) (σ 7 0) t' (ss_u σ 14 t (σ 14 t + 1) 14 t') = k + 1 ∧ σ 9 k = 8 ∧ σ 10 k = σ 26 t'
    rw [ss_ui _ _ _ _ q]
    exact h9d t' ht' hs
  · have q : t' ≠ t := fun q => by
      have : σ 1 0 < t' := ht'
      omega
    have this := h14c t' ht'
    simp [ss_u, q]
    exact this
theorem lc_actBy (hQ : cl_Q B c μ0 μ) (hP : REP B e 0 0 σ c) (t x : Nat) (ht : 1 ≤ t ∧ t ≤ σ 1 0) (hx1 : x < 2 ^ 31) (hb : σ 21 0 + 1 < 2 ^ 31) (hB : σ 39 0 + 1 < 2 ^ 31) : lc_V G my_T_activateByTask mY_T_activateByTask B e 0 0 σ (if 1 ≤ x ∧ x ≤ σ 1 0 then sp_begin σ x else sp_tell σ 8 t) μ0 μ [va_rf (some (cD B 8 t)), .int (nI x)] := by
  have hx := hP.x
  refine mj_of (by decide) rfl (by decide) (Nat.le_of_ble_eq_true rfl) rfl ⟨Nat.le_add_right _ _, Nat.le_add_right _ _⟩ ?_
  refine bk_T_activateByTask_0 ⟨hQ.t0 hx, _, lc_taskOf hQ hP (nI x), fun y μ1 h r1 r2 => ?_⟩
  obtain ⟨hy, rfl⟩ := h
  rw [nI_toInt hx1, Int.toNat_natCast] at hy
  refine bk_T_activateByTask_5 ⟨fun q => ⟨hQ.t0 hx, ?_⟩, fun b q => ⟨hQ.t0 hx, ?_⟩⟩
  · have : ¬ (1 ≤ x ∧ x ≤ σ 1 0) := fun z => by
      rw [hy, if_pos (by omega)] at q
      cases q
    rw [if_neg this]
    exact ⟨_, _, _, lc_tell hQ hP hB 8 t (by decide) ht, ⟨Nat.le_refl _, Nat.le_refl _⟩, fun μ2 h r3 r4 => bk_T_activateByTask_17 (bk_T_activateByTask_25 ⟨⟨rfl, h⟩, r3, r4⟩)⟩
  · by_cases z : 1 ≤ x ∧ x ≤ σ 1 0
    · rw [if_pos (by omega)] at hy
      rw [if_pos z, hy]
      exact ⟨_, _, _, lc_activate hQ hP x z hb hB, ⟨Nat.le_refl _, Nat.le_refl _⟩, fun μ2 h r3 r4 => bk_T_activateByTask_25 ⟨⟨rfl, h⟩, r3, r4⟩⟩
    · rw [hy, if_neg (by omega)] at q
      cases q
theorem lc_chain (hQ : cl_Q B c μ0 μ) (hP : REP B e 0 t1 σ c) (t x : Nat) (ht : 1 ≤ t ∧ t ≤ σ 1 0) (hx1 : x < 2 ^ 31) (h11 : σ 11 t = 2) (h19 : σ 19 t = 0) (h26 : σ 26 t = 0) (h15 : σ 15 t = 0) (h01 : t1 = 0 ∨ t1 = t) (hb : σ 21 0 + 2 < 2 ^ 31) (hB : σ 39 0 + 3 < 2 ^ 31) : lc_V G my_T_chain mY_T_chain B e 0 0 σ (sp_chain σ t x) μ0 μ [va_rf (some (cD B 8 t)), .int (nI x)] := by
  have hx := hP.x
  refine mj_of (by decide) rfl (by decide) (Nat.le_of_ble_eq_true rfl) rfl ⟨Nat.le_add_right _ _, Nat.le_add_right _ _⟩ ?_
  refine bk_T_chain_0 ⟨hQ.t0 hx, _, lc_taskOf hQ hP (nI x), fun y μ1 h r1 r2 => ?_⟩
  obtain ⟨hy, rfl⟩ := h
  rw [nI_toInt hx1, Int.toNat_natCast] at hy
  have w39 := (hP.h14.2.1 t ht).1
  by_cases z : 1 ≤ x ∧ x ≤ σ 1 0
  · rw [if_pos (by omega)] at hy
    have ec : sp_chain σ t x = sp_begin (sp_ends σ t) x := by
      unfold sp_chain sp_chain2 sp_chain1
      rw [if_pos z, if_pos z]
      split
      · rename_i q
        rw [q]
        exact (sp_chain_self σ t w39).symm
      · rfl
    rw [ec, hy]
    have m1 := sp_ends_39 σ t
    have m2 := sp_begin_39 (sp_ends σ t) x
    have m3 := sp_ends_21 σ t
    refine bk_T_chain_5 ⟨fun q => (by cases q), fun b q => ?_⟩
    refine bk_T_chain_17 ⟨hQ.t0 hx, _, _, _, lc_ends hQ hP t ht h11 h19 h26 h15 h01 (by omega) (by omega), ?_, fun μ2 h r3 r4 => ?_⟩
    · have := tb_le (σ := σ) m2.1
      omega
    · obtain ⟨c2, hQ2, hP2⟩ := h
      have e1 : sp_ends σ t 1 0 = σ 1 0 := sp_ends_f σ t 1 0 (by omega)
      have tt := tb_t m1.1 m2.1
      refine bk_T_chain_22 ⟨fun q => (by cases q), fun b q => ⟨hQ2.t0 hx, _, _, _, lc_activate hQ2 hP2 x (by rw [e1]; exact z) (by omega) (by omega), by omega, fun μ3 h r5 r6 => bk_T_chain_31 ⟨⟨rfl, h⟩, ?_, ?_⟩⟩⟩
      · omega
      · omega
  · rw [if_neg (by omega)] at hy
    have ec : sp_chain σ t x = sp_ends (sp_tell σ 8 t) t := by
      unfold sp_chain sp_chain2 sp_chain1
      rw [if_neg z, if_neg z, if_neg (fun q => z (by rw [q]; exact ht))]
    rw [ec, hy]
    have m1 := sp_tell_39 σ 8 t
    have m2 := sp_ends_39 (sp_tell σ 8 t) t
    have tt := tb_t (σ := σ) (σ1 := sp_tell σ 8 t) (by omega) m2.1
    have tl := tb_le (σ := σ) m2.1
    refine bk_T_chain_5 ⟨fun q => ⟨hQ.t0 hx, _, _, _, lc_tell hQ hP (by omega) 8 t (by decide) ht, by omega, fun μ2 h r3 r4 => ?_⟩, fun b q => (by cases q)⟩
    obtain ⟨c2, hQ2, hP2⟩ := h
    have k1 : sp_tell σ 8 t 1 0 = σ 1 0 := sp_tell_f _ _ _ _ _ (by decide)
    have k11 : sp_tell σ 8 t 11 t = σ 11 t := sp_tell_f _ _ _ _ _ (by decide)
    have k19 : sp_tell σ 8 t 19 t = σ 19 t := sp_tell_f _ _ _ _ _ (by decide)
    have k15 : sp_tell σ 8 t 15 t = σ 15 t := sp_tell_f _ _ _ _ _ (by decide)
    have k26 : sp_tell σ 8 t 26 t = σ 26 t := sp_tell_f _ _ _ _ _ (by decide)
    have k21 : sp_tell σ 8 t 21 0 = σ 21 0 := sp_tell_f _ _ _ _ _ (by decide)
    refine bk_T_chain_17 ⟨hQ2.t0 hx, _, _, _, lc_ends hQ2 hP2 t (by rw [k1]; exact ht) (by omega) (by omega) (by omega) (by omega) h01 (by omega) (by omega), by omega, fun μ3 h r5 r6 => ?_⟩
    refine bk_T_chain_22 ⟨fun q => bk_T_chain_31 ⟨⟨rfl, h⟩, ?_, ?_⟩, fun b q => (by cases q)⟩
    · omega
    · omega
theorem REP.wait (hP : REP B e 0 0 σ c) (t x : Nat) (ht : 1 ≤ t ∧ t ≤ σ 1 0) (h11 : σ 11 t = 2) (h19 : σ 19 t = 0) : REP B e 0 0 (ss_u (ss_u σ 11 t 3) 18 t x) (cc_u (cc_u (cc_u c 8 13 t x) 8 9 t 3) 1 4 (σ 3 t) 0) := by
  have hkt := hP.k ht
  have h3t := (hP.h2 t ht).2.2.2.2.2.2.2
  have hck := hP.co h3t
  obtain ⟨hb, h1, h2, ⟨h3a, h3b, h3c, h3d, h3e, h3f⟩, h4, h5, h6, ⟨h7a, h7b, h7c⟩, h8, ⟨h9a, h9b, h9c, h9d⟩, h10, h11', h12, h13, ⟨h14a, h14b, h14c⟩, h15', h16⟩ := hP
  refine ⟨hb, h1, h2, ⟨eq_u h3a t 3, h3b, h3c, h3d, eq_u h3e t x, h3f⟩, h4, h5.off t 3 ht h3t h11 h19 (by decide), h6, ⟨fun t' ht' hn hs' => ?_, fun t' ht' hs' => ?_, fun t' ht' q1 q2 q3 => ?_⟩, h8, ⟨h9a, h9b, h9c, fun t' ht' hs' => ?_⟩, h10, h11', h12, h13, ⟨h14a, h14b, fun t' ht' => ?_⟩, h15', ((h16.u 8 13 t _ (Or.inl hkt)).u 8 9 t _ (Or.inl hkt)).u 1 4 _ _ (Or.inl hck)⟩
  · by_cases q : t' = t
    · subst q
      exact h7a t' ht' hn (by omega)
    · simp [ss_u, q] at hs'
      exact h7a t' ht' hn hs'
  · by_cases q : t' = t
    · subst q
      simp [ss_u] at hs'
      exact h7b t' ht' (Or.inr hs')
    · simp [ss_u, q] at hs'
      exact h7b t' ht' hs'
  · by_cases q : t' = t
    · subst q
      exact h7c t' ht' (by omega) q2 q3
    · simp [ss_u, q] at q1
      exact h7c t' ht' q1 q2 q3
  · obtain ⟨g1, g2, g3⟩ := h9d t' ht' hs'
    refine ⟨g1, ?_, g3⟩
    by_cases q : t' = t
    · subst q
      simp [ss_u]
    · simp [ss_u, q]
      exact g2
  · have q : t' ≠ t := fun q => by
      have : σ 1 0 < t' := ht'
      omega
    have this := h14c t' ht'
    simp [ss_u, q]
    exact this
theorem lc_hold (hP : REP B e 0 t1 σ c) (t : Nat) (ht : 1 ≤ t ∧ t ≤ σ 1 0) : (c 8 15 t = 0 ∧ c 8 16 t = 0) = (sp_holds σ t = 0) := by
  obtain ⟨L, w1, w2, w3⟩ := hP.h8.2.2 t ht
  have e16 : c 8 16 t = lcn (σ 25) t 16 := hP.h9.1 t ht (by omega)
  have hiff := sp_holds_iff σ t
  rw [e16, lcn_0]
  apply propext
  constructor
  · intro h
    apply Decidable.byContradiction
    intro z
    rcases hiff.mp z with ⟨r, g1, g2, g3⟩ | ⟨l, g1, g2, g3⟩
    · have := (w2 r).mpr ⟨⟨g1, g2⟩, g3⟩
      cases L with
      | nil => cases this
      | cons y L =>
        have := w1.1
        omega
    · exact h.2 l g1 g2 g3
  · intro h
    refine ⟨?_, fun l g1 g2 g3 => (hiff.mpr (Or.inr ⟨l, g1, g2, g3⟩)) h⟩
    cases L with
    | nil => exact w1
    | cons y L =>
      have := (w2 y).mp (List.mem_cons_self ..)
      exact absurd h (hiff.mpr (Or.inl ⟨y, this.1.1, this.1.2, this.2⟩))
theorem lc_wait (hQ : cl_Q B c μ0 μ) (hP : REP B e 0 0 σ c) (t x : Nat) (ht : 1 ≤ t ∧ t ≤ σ 1 0) (hx1 : x < 2 ^ 31) (h11 : σ 11 t = 2) (h19 : σ 19 t = 0) (hB : σ 39 0 + 1 < 2 ^ 31) :
    lc_V G my_T_waitFor mY_T_waitFor B e 0 0 σ (if σ 5 t = 0 then sp_tell σ 2 t else if sp_holds σ t ≠ 0 then sp_tell σ 4 t else if (σ 17 t &&& x) = 0 then ss_u (ss_u σ 11 t 3) 18 t x else σ) μ0 μ [va_rf (some (cD B 8 t)), .int (nI x)] := by
  have hx := hP.x
  have hkt := hP.k ht
  have h3t := (hP.h2 t ht).2.2.2.2.2.2.2
  have hck := hP.co h3t
  have e4 : c 8 4 t = σ 5 t := (hP.h2 t ht).2.2.2.2.1
  have e2 : c 8 2 t = σ 3 t + 1 := (hP.h2 t ht).2.2.1
  have e12 : c 8 12 t = σ 17 t := hP.h3.2.2.2.1 t ht
  have hh := lc_hold hP t ht
  have b4 := hQ.b 8 4 t (by decide)
  rw [e4] at b4
  have b16 := hQ.b 8 16 t (by decide)
  have b12 := hQ.b 8 12 t (by decide)
  rw [e12] at b12
  have band : σ 17 t &&& x < 2 ^ 31 := Nat.lt_of_le_of_lt Nat.and_le_left b12
  refine mj_of (by decide) rfl (by decide) (Nat.le_of_ble_eq_true rfl) rfl ⟨Nat.le_add_right _ _, Nat.le_add_right _ _⟩ ?_
  refine bk_T_waitFor_0 ?_
  simp (disch := first | decide | assumption | omega) only [hQ.t0, hQ.t1, hQ.t2, hQ.t3, hQ.t4, hQ.t5, hQ.t6, hQ.t7, hQ.t8, hQ.t9, hQ.ta0, hQ.ta1, hQ.ta2, hQ.ta3, hQ.tb, hQ.e0, hQ.e1, hQ.e2, hQ.e3, hQ.i0_8, hQ.i0_9, hQ.i0_10, hQ.i0_11, hQ.i0_12, hQ.r0_0, hQ.r0_1, hQ.r0_2, hQ.r0_3, hQ.r0_4, hQ.r0_5, hQ.r0_6, hQ.r0_7, hQ.i1_0, hQ.i1_5, hQ.i1_6, hQ.r1_1, hQ.r1_2, hQ.r1_3, hQ.r1_4, hQ.i2_0, hQ.i2_1, hQ.i2_2, hQ.r2_3, hQ.i3_1, hQ.i3_3, hQ.r3_0, hQ.r3_2, hQ.r4_0, hQ.r4_1, hQ.i5_1, hQ.i5_2, hQ.r5_0, hQ.i6_0, hQ.i6_1, hQ.r6_2, hQ.i7_0, hQ.r7_1, hQ.r7_2, hQ.i8_0, hQ.i8_1, hQ.i8_3, hQ.i8_4, hQ.i8_5, hQ.i8_8, hQ.i8_9, hQ.i8_10, hQ.i8_11, hQ.i8_12, hQ.i8_13, hQ.i8_14, hQ.i8_16, hQ.r8_2, hQ.r8_6, hQ.r8_7, hQ.r8_15, hQ.r8_17, hQ.r8_18, hQ.i9_1, hQ.r9_0, hQ.r9_2, Option.some.injEq, exists_eq_left', nI_clamp, nI_1, mj_vin, true_and, eq_self, e4, e2, e12, mj_z0, mj_le0, nI_and, cl_ref_s]
  refine ⟨fun q => ?_, fun q => ?_⟩
  · rw [if_neg q]
    have t4 : sp_holds σ t ≠ 0 → ∃ (N' S' : Nat) (P : mj_MM → Prop), mj_M G my_T_tellCode mY_T_tellCode [va_rf (some (cD B 0 0)), .int 4, va_rf (some (cD B 8 t))] N' S' μ (mj_XV P) ∧ (N' ≤ mj_nc μ + tb σ (if sp_holds σ t ≠ 0 then sp_tell σ 4 t else if (σ 17 t &&& x) = 0 then ss_u (ss_u σ 11 t 3) 18 t x else σ) ∧ S' ≤ mj_ns μ + 512 * tb σ (if sp_holds σ t ≠ 0 then sp_tell σ 4 t else if (σ 17 t &&& x) = 0 then ss_u (ss_u σ 11 t 3) 18 t x else σ)) ∧ ∀ μ', P μ' → mj_nc μ' = N' → mj_ns μ' = S' → mj_J G mY_T_waitFor (fun v μ' => mj_XV (fun μ' => CR B e 0 0 (if sp_holds σ t ≠ 0 then sp_tell σ 4 t else if (σ 17 t &&& x) = 0 then ss_u (ss_u σ 11 t 3) 18 t x else σ) μ0 μ') v μ' ∧ mj_nc μ' = mj_nc μ + tb σ (if sp_holds σ t ≠ 0 then sp_tell σ 4 t else if (σ 17 t &&& x) = 0 then ss_u (ss_u σ 11 t 3) 18 t x else σ) ∧ mj_ns μ' = mj_ns μ + 512 * tb σ (if sp_holds σ t ≠ 0 then sp_tell σ 4 t else if (σ 17 t &&& x) = 0 then ss_u (ss_u σ 11 t 3) 18 t x else σ)) (mj_nc μ + tb σ (if sp_holds σ t ≠ 0 then sp_tell σ 4 t else if (σ 17 t &&& x) = 0 then ss_u (ss_u σ 11 t 3) 18 t x else σ)) (mj_ns μ + 512 * tb σ (if sp_holds σ t ≠ 0 then sp_tell σ 4 t else if (σ 17 t &&& x) = 0 then ss_u (ss_u σ 11 t 3) 18 t x else σ)) 36 [] [] μ' := by
      intro hz
      rw [if_pos hz]
      exact ⟨_, _, _, lc_tell hQ hP hB 4 t (by decide) ht, ⟨Nat.le_refl _, Nat.le_refl _⟩, fun μ2 h r3 r4 => bk_T_waitFor_36 ⟨⟨rfl, h⟩, r3, r4⟩⟩
    cases hc : c 8 15 t with
    | zero =>
      rw [hc] at hh
      refine ⟨fun _ => ⟨fun q2 => ?_, fun q2 => t4 (fun z => ?_)⟩, fun b z => by cases z⟩
      · have hz : ¬ sp_holds σ t ≠ 0 := fun z => z (by rw [← hh]; exact ⟨rfl, q2⟩)
        rw [if_neg hz]
        refine ⟨fun q3 => ?_, fun q3 => ?_⟩
        · rw [if_neg q3, tb_0 rfl]
          exact ⟨⟨rfl, _, hQ, hP⟩, rfl, rfl⟩
        · rw [if_pos q3, tb_0 (σ := σ) (σ' := ss_u (ss_u σ 11 t 3) 18 t x) rfl]
          exact ⟨⟨rfl, _, ((hQ.pI 8 13 t x hkt (by decide) hx1).pI 8 9 t 3 hkt (by decide) (by decide)).pR 1 4 (σ 3 t) 0 hck (by decide) (by decide) (Or.inl rfl), hP.wait t x ht h11 h19⟩, rfl, rfl⟩
      · rw [← hh] at z
        exact q2 z.2
    | succ r =>
      rw [hc] at hh
      refine ⟨fun z => (by cases z), fun b z => t4 (fun y => ?_)⟩
      rw [← hh] at y
      omega
  · rw [if_pos q]
    exact ⟨_, _, _, lc_tell hQ hP hB 2 t (by decide) ht, ⟨Nat.le_refl _, Nat.le_refl _⟩, fun μ2 h r3 r4 => bk_T_waitFor_13 ⟨⟨rfl, h⟩, r3, r4⟩⟩
end CF
