section CW
variable {G : mj_G} {B : cl_B} {σ τ : ss_S} {c : cc_S} {μ μ0 : mj_MM} {Ex : Option Value → mj_MM → Prop} {N S : Nat}
theorem ceil_r (σ : ss_S) : sp_ceil σ = ss_r σ 24 (sp_ceil σ 24) := by
  funext f i
  unfold ss_r
  by_cases z : f = 24
  · rw [if_pos z, z]
  · rw [if_neg z]
    exact sp_cl_f σ f i z _
theorem REP.ceil {e t0 t1 : Nat} (hP : REP B e t0 t1 σ c) : REP B e t0 t1 (sp_ceil σ) c := by
  rw [ceil_r]
  generalize sp_ceil σ 24 = g
  exact hP
theorem BL_ceil (σ : ss_S) : BL (sp_ceil σ) = BL σ := by
  rw [ceil_r]
  generalize sp_ceil σ 24 = g
  rfl
theorem lq_run (hQ : cl_Q B c μ0 μ) (hP : REP B 0 0 0 σ c) (v : Int64) (hMS : ∀ n : Nat, v.toInt = n → n + σ 43 0 ≤ 50000 → ∀ j, j < n → MS (sp_runN (sp_ceil σ) j).1) (hBL : BL σ ≤ BL (an_run σ v.toInt).2) :
    mj_M G my_T_run mY_T_run [va_rf (some (cD B 0 0)), .long v] (mj_nc μ + (BL (an_run σ v.toInt).2 - BL σ)) (mj_ns μ + 512 * (BL (an_run σ v.toInt).2 - BL σ)) μ (mj_XI (fun x μ' => x = (an_run σ v.toInt).1 ∧ CR B 0 0 0 (an_run σ v.toInt).2 μ0 μ')) := by
  have hx := hP.x
  have hV := hP.v
  have hnow : σ 43 0 ≤ 50000 := hV.2.2.2.2.2.2.2.2.2
  have e12 : c 0 12 0 = σ 43 0 := hP.h1.2.1.2.2.2.2
  refine mj_of (by decide) rfl (by decide) (Nat.le_of_ble_eq_true rfl) rfl ⟨Nat.le_add_right _ _, Nat.le_add_right _ _⟩ ?_
  refine bk_T_run_0 ?_
  rw [mj_jLT, show (0 : Int64).toInt = 0 from by decide]
  have bad : ¬ (0 ≤ v.toInt ∧ v.toInt + σ 43 0 ≤ 50000) → an_run σ v.toInt = (-2, σ) := fun z => by
    unfold an_run
    rw [if_neg z]
  refine ⟨fun z => ?_, fun z => ⟨hQ.t0 hx, ?_⟩⟩
  · rw [bad (by omega)]
    exact ⟨⟨_, rfl, rfl, c, hQ, hP⟩, (by show _ = _ + (BL σ - BL σ); omega), (by show _ = _ + 512 * (BL σ - BL σ); omega)⟩
  · obtain ⟨n, h1, rfl, h3⟩ := mj_LL (v := v) (by omega)
    have e5 : (50000 : Int32) - nI (σ 43 0) = nI (50000 - σ 43 0) := by
      rw [show (50000 : Int32) = nI 50000 from rfl, nI_subN hnow]
    rw [hQ.i0_12 hx, e12, e5, nI_l (by omega), mj_LE h1 (by omega)]
    refine ⟨fun y => ?_, fun y => ?_⟩
    · have good : an_run σ (lN n).toInt = (nI (sp_runN (sp_ceil σ) n).2, (sp_runN (sp_ceil σ) n).1) := by
        unfold an_run
        rw [h3, if_pos (by omega), Int.toNat_natCast]
      rw [good] at hBL ⊢
      rw [lN_i, nI_add]
      have f43 : sp_ceil σ 43 0 = σ 43 0 := sp_cl_f σ 43 0 (by decide) _
      have hBL' : BL σ ≤ BL (sp_runN (sp_ceil σ) n).1 := hBL
      have := rl_runC (G := G) (B := B) (μ0 := μ0) (N := mj_nc μ + (BL (sp_runN (sp_ceil σ) n).1 - BL σ)) (S := mj_ns μ + 512 * (BL (sp_runN (sp_ceil σ) n).1 - BL σ)) (Ex := fun v' μ' => mj_XI (fun x μ' => x = nI (sp_runN (sp_ceil σ) n).2 ∧ CR B 0 0 0 (sp_runN (sp_ceil σ) n).1 μ0 μ') v' μ' ∧ mj_nc μ' = mj_nc μ + (BL (sp_runN (sp_ceil σ) n).1 - BL σ) ∧ mj_ns μ' = mj_ns μ + 512 * (BL (sp_runN (sp_ceil σ) n).1 - BL σ)) (sp_ceil σ) n (σ 43 0 + n) (σ 0 0) (by omega) (by rw [f43]) (hMS n h3 (by omega)) hP.b.2.2.2.1.2.1 hV.2.1 (fun μ' h r1 r2 => ⟨⟨_, rfl, rfl, h⟩, r1, r2⟩) n 0 0 c μ (by omega) (by omega) hQ hP.ceil (by show sp_ceil σ 43 0 = sp_ceil σ 43 0 + 0; rfl) ?_ ?_
      · exact this
      · show mj_nc μ + BL (sp_runN (sp_ceil σ) n).1 = mj_nc μ + (BL (sp_runN (sp_ceil σ) n).1 - BL σ) + BL (sp_ceil σ)
        rw [BL_ceil]
        omega
      · show mj_ns μ + 512 * BL (sp_runN (sp_ceil σ) n).1 = mj_ns μ + 512 * (BL (sp_runN (sp_ceil σ) n).1 - BL σ) + 512 * BL (sp_ceil σ)
        rw [BL_ceil]
        omega
    · rw [bad (by omega)]
      exact ⟨⟨_, rfl, rfl, c, hQ, hP⟩, (by show _ = _ + (BL σ - BL σ); omega), (by show _ = _ + 512 * (BL σ - BL σ); omega)⟩
theorem lq_now (hQ : cl_Q B c μ0 μ) (hP : REP B 0 0 0 σ c) : mj_M G my_T_now mY_T_now [va_rf (some (cD B 0 0))] (mj_nc μ) (mj_ns μ) μ (mj_XL (fun x μ' => x = lN (σ 43 0) ∧ μ' = μ)) := by
  have hx := hP.x
  have hnow : σ 43 0 ≤ 50000 := hP.v.2.2.2.2.2.2.2.2.2
  have e12 : c 0 12 0 = σ 43 0 := hP.h1.2.1.2.2.2.2
  refine mj_of (by decide) rfl (by decide) (Nat.le_of_ble_eq_true rfl) rfl ⟨Nat.le_refl _, Nat.le_refl _⟩ ?_
  refine bk_T_now_0 ⟨hQ.t0 hx, ?_⟩
  rw [hQ.i0_12 hx, e12, nI_l (by omega)]
  exact ⟨⟨_, rfl, rfl, rfl⟩, rfl, rfl⟩
theorem lq_used (hQ : cl_Q B c μ0 μ) (hP : REP B 0 0 0 σ c) (v : Int32) : mj_M G my_T_used mY_T_used [va_rf (some (cD B 0 0)), .int v] (mj_nc μ) (mj_ns μ) μ (mj_XL (fun x μ' => x = an_used σ v.toInt ∧ μ' = μ)) := by
  have hx := hP.x
  refine mj_of (by decide) rfl (by decide) (Nat.le_of_ble_eq_true rfl) rfl ⟨Nat.le_refl _, Nat.le_refl _⟩ ?_
  refine bk_T_used_0 ⟨hQ.t0 hx, _, lc_taskOf hQ hP v, fun y μ1 h r1 r2 => ?_⟩
  obtain ⟨hy, rfl⟩ := h
  unfold an_used
  by_cases z : 1 ≤ v.toInt ∧ v.toInt ≤ σ 1 0
  · rw [if_pos z] at hy ⊢
    have ht : 1 ≤ v.toInt.toNat ∧ v.toInt.toNat ≤ σ 1 0 := by omega
    have hk := hP.k ht
    have e := hP.h3.2.2.2.2.2 _ ht
    have b14 := hQ.b 8 14 v.toInt.toNat (by decide)
    rw [hy]
    refine bk_T_used_5 ⟨fun q => (by cases q), fun b q => ?_⟩
    cases q
    refine ⟨hQ.t8 hk, ?_⟩
    rw [hQ.i8_14 hk, nI_l b14, e]
    exact ⟨⟨_, rfl, rfl, rfl⟩, rfl, rfl⟩
  · rw [if_neg z] at hy ⊢
    rw [hy]
    exact bk_T_used_5 ⟨fun _ => ⟨⟨_, rfl, rfl, rfl⟩, rfl, rfl⟩, fun b q => (by cases q)⟩
theorem lq_state (hQ : cl_Q B c μ0 μ) (hP : REP B 0 0 0 σ c) (v : Int32) : mj_M G my_T_state mY_T_state [va_rf (some (cD B 0 0)), .int v] (mj_nc μ) (mj_ns μ) μ (mj_XI (fun x μ' => x = an_state σ v.toInt ∧ μ' = μ)) := by
  have hx := hP.x
  refine mj_of (by decide) rfl (by decide) (Nat.le_of_ble_eq_true rfl) rfl ⟨Nat.le_refl _, Nat.le_refl _⟩ ?_
  refine bk_T_state_0 ⟨hQ.t0 hx, _, lc_taskOf hQ hP v, fun y μ1 h r1 r2 => ?_⟩
  obtain ⟨hy, rfl⟩ := h
  unfold an_state
  by_cases z : 1 ≤ v.toInt ∧ v.toInt ≤ σ 1 0
  · rw [if_pos z] at hy ⊢
    have ht : 1 ≤ v.toInt.toNat ∧ v.toInt.toNat ≤ σ 1 0 := by omega
    have hk := hP.k ht
    have e := hP.h3.1 _ ht
    rw [hy]
    refine bk_T_state_5 ⟨fun q => (by cases q), fun b q => ?_⟩
    cases q
    refine ⟨hQ.t8 hk, ?_⟩
    rw [hQ.i8_9 hk, e]
    exact ⟨⟨_, rfl, rfl, rfl⟩, rfl, rfl⟩
  · rw [if_neg z] at hy ⊢
    rw [hy]
    exact bk_T_state_5 ⟨fun _ => ⟨⟨_, rfl, rfl, rfl⟩, rfl, rfl⟩, fun b q => (by cases q)⟩
theorem lq_events (hQ : cl_Q B c μ0 μ) (hP : REP B 0 0 0 σ c) (v : Int32) : mj_M G my_T_events mY_T_events [va_rf (some (cD B 0 0)), .int v] (mj_nc μ) (mj_ns μ) μ (mj_XI (fun x μ' => x = an_events σ v.toInt ∧ μ' = μ)) := by
  have hx := hP.x
  refine mj_of (by decide) rfl (by decide) (Nat.le_of_ble_eq_true rfl) rfl ⟨Nat.le_refl _, Nat.le_refl _⟩ ?_
  refine bk_T_events_0 ⟨hQ.t0 hx, _, lc_taskOf hQ hP v, fun y μ1 h r1 r2 => ?_⟩
  obtain ⟨hy, rfl⟩ := h
  unfold an_events
  by_cases z : 1 ≤ v.toInt ∧ v.toInt ≤ σ 1 0
  · rw [if_pos z] at hy ⊢
    have ht : 1 ≤ v.toInt.toNat ∧ v.toInt.toNat ≤ σ 1 0 := by omega
    have hk := hP.k ht
    have e := hP.h3.2.2.2.1 _ ht
    rw [hy]
    refine bk_T_events_5 ⟨fun q => (by cases q), fun b q => ?_⟩
    cases q
    refine ⟨hQ.t8 hk, ?_⟩
    rw [hQ.i8_12 hk, e]
    exact ⟨⟨_, rfl, rfl, rfl⟩, rfl, rfl⟩
  · rw [if_neg z] at hy ⊢
    rw [hy]
    exact bk_T_events_5 ⟨fun _ => ⟨⟨_, rfl, rfl, rfl⟩, rfl, rfl⟩, fun b q => (by cases q)⟩
theorem lq_holder (hQ : cl_Q B c μ0 μ) (hP : REP B 0 0 0 σ c) (v : Int32) : mj_M G my_T_holder mY_T_holder [va_rf (some (cD B 0 0)), .int v] (mj_nc μ) (mj_ns μ) μ (mj_XI (fun x μ' => x = an_holder σ v.toInt ∧ μ' = μ)) := by
  have hx := hP.x
  refine mj_of (by decide) rfl (by decide) (Nat.le_of_ble_eq_true rfl) rfl ⟨Nat.le_refl _, Nat.le_refl _⟩ ?_
  refine bk_T_holder_0 ⟨hQ.t0 hx, _, lc_resourceOf hQ hP v, fun y μ1 h r1 r2 => ?_⟩
  obtain ⟨hy, rfl⟩ := h
  unfold an_holder
  by_cases z : 1 ≤ v.toInt ∧ v.toInt ≤ 32
  · rw [if_pos z] at hy ⊢
    have hr : 1 ≤ v.toInt.toNat ∧ v.toInt.toNat ≤ 32 := by omega
    have hk := hP.re (r := v.toInt.toNat) (by omega)
    obtain ⟨e1, e2⟩ := hP.h8.1 _ hr.1 hr.2
    rw [hy]
    refine bk_T_holder_5 ⟨fun q => (by cases q), fun b q => ?_⟩
    cases q
    rw [hQ.r7_1 hk, e1]
    refine ⟨hQ.t7 hk, ?_⟩
    by_cases w : σ 22 v.toInt.toNat = 0
    · rw [w]
      exact ⟨fun _ => ⟨⟨_, rfl, rfl, rfl⟩, rfl, rfl⟩, fun b q => (by cases q)⟩
    · rw [enc_s w]
      refine ⟨fun q => (by cases q), fun b q => ?_⟩
      cases q
      have ht : 1 ≤ σ 22 v.toInt.toNat ∧ σ 22 v.toInt.toNat ≤ σ 1 0 := ⟨by omega, e2 w⟩
      have hkt := hP.k ht
      rw [hQ.i8_0 hkt, (hP.h2 _ ht).1]
      exact ⟨hQ.t8 hkt, ⟨_, rfl, rfl, rfl⟩, rfl, rfl⟩
  · rw [if_neg z] at hy ⊢
    rw [hy]
    exact bk_T_holder_5 ⟨fun _ => ⟨⟨_, rfl, rfl, rfl⟩, rfl, rfl⟩, fun b q => (by cases q)⟩
theorem lq_event (hQ : cl_Q B c μ0 μ) (hP : REP B 0 0 0 σ c) (hb : σ 21 0 + 1 < 2 ^ 31) (v w : Int32) : mj_M G my_T_event mY_T_event [va_rf (some (cD B 0 0)), .int v, .int w] (mj_nc μ) (mj_ns μ) μ (mj_XI (fun x μ' => x = (an_event σ v.toInt w.toInt).1 ∧ CR B 0 0 0 (an_event σ v.toInt w.toInt).2 μ0 μ')) := by
  have hx := hP.x
  refine mj_of (by decide) rfl (by decide) (Nat.le_of_ble_eq_true rfl) rfl ⟨Nat.le_refl _, Nat.le_refl _⟩ ?_
  refine bk_T_event_0 ⟨hQ.t0 hx, _, lc_taskOf hQ hP v, fun y μ1 h r1 r2 => ?_⟩
  obtain ⟨hy, rfl⟩ := h
  unfold an_event
  by_cases z : 1 ≤ v.toInt ∧ v.toInt ≤ σ 1 0
  · rw [if_pos z] at hy ⊢
    have ht : 1 ≤ v.toInt.toNat ∧ v.toInt.toNat ≤ σ 1 0 := by omega
    have hk := hP.k ht
    rw [hy]
    refine bk_T_event_5 ⟨fun q => (by cases q), fun b q => ?_⟩
    cases q
    rw [mj_iLT, mj_iLT, show (1 : Int32).toInt = 1 from by decide, show (65536 : Int32).toInt = 65536 from by decide]
    refine ⟨fun q => ?_, fun q => ⟨fun q2 => ⟨hQ.t8 hk, _, lc_mayBeSet hQ hP _ ht, fun x μ2 h r3 r4 => ?_⟩, fun q2 => ?_⟩⟩
    · rw [if_neg (by omega)]
      exact ⟨⟨_, rfl, rfl, c, hQ, hP⟩, rfl, rfl⟩
    · obtain ⟨rfl, rfl⟩ := h
      rw [if_pos (by omega)]
      by_cases u : σ 5 v.toInt.toNat ≠ 0 ∧ σ 11 v.toInt.toNat ≠ 0
      · rw [if_pos u, if_pos u]
        obtain ⟨n, n1, rfl, n3⟩ := mj_nn (v := w) (by omega)
        rw [n3, Int.toNat_natCast]
        exact bk_T_event_30 ⟨fun _ => ⟨hQ.t0 hx, _, lc_setEvents hQ hP v.toInt.toNat n ht (by omega) hb, fun μ3 h r5 r6 => bk_T_event_42 ⟨⟨_, rfl, rfl, h⟩, r5, r6⟩⟩, fun q => absurd q (by decide)⟩
      · rw [if_neg u, if_neg u]
        exact bk_T_event_30 ⟨fun q => absurd rfl q, fun _ => ⟨⟨_, rfl, rfl, c, hQ, hP⟩, rfl, rfl⟩⟩
    · rw [if_neg (by omega)]
      exact ⟨⟨_, rfl, rfl, c, hQ, hP⟩, rfl, rfl⟩
  · rw [if_neg z] at hy ⊢
    rw [hy]
    exact bk_T_event_5 ⟨fun _ => ⟨⟨_, rfl, rfl, c, hQ, hP⟩, rfl, rfl⟩, fun b q => (by cases q)⟩
theorem lq_manner (hQ : cl_Q B c μ0 μ) (hP : REP B 0 0 0 σ c) (v : Int32) (f : Nat) (hf : f < 2) : mj_M G my_T_manner mY_T_manner [va_rf (some (cD B 0 0)), .int v, .int (nI f)] (mj_nc μ) (mj_ns μ) μ (mj_XI (fun x μ' => x = (an_manner σ v.toInt f).1 ∧ CR B 0 0 0 (an_manner σ v.toInt f).2 μ0 μ')) := by
  have hx := hP.x
  have hnow : σ 43 0 ≤ 50000 := hP.v.2.2.2.2.2.2.2.2.2
  have e12 : c 0 12 0 = σ 43 0 := hP.h1.2.1.2.2.2.2
  refine mj_of (by decide) rfl (by decide) (Nat.le_of_ble_eq_true rfl) rfl ⟨Nat.le_refl _, Nat.le_refl _⟩ ?_
  refine bk_T_manner_0 ⟨hQ.t0 hx, _, lc_taskOf hQ hP v, fun y μ1 h r1 r2 => ?_⟩
  obtain ⟨hy, rfl⟩ := h
  unfold an_manner
  by_cases z : 1 ≤ v.toInt ∧ v.toInt ≤ σ 1 0
  · rw [if_pos z] at hy ⊢
    have ht : 1 ≤ v.toInt.toNat ∧ v.toInt.toNat ≤ σ 1 0 := by omega
    have hk := hP.k ht
    rw [hy]
    refine bk_T_manner_5 ⟨fun q => (by cases q), fun b q => ⟨hQ.t0 hx, ?_⟩⟩
    cases q
    rw [hQ.i0_12 hx, e12, mj_le0 (by omega)]
    refine ⟨fun q => ⟨hQ.t8 hk, ?_, ?_⟩, fun q => ?_⟩
    · rw [mj_z0 (by omega), mj_z1 (by omega)]
      omega
    · rw [if_pos q]
      refine ⟨⟨_, rfl, rfl, _, hQ.pI 8 5 v.toInt.toNat f hk (by decide) (by omega), ?_⟩, rfl, rfl⟩
      obtain ⟨hb, h1, h2, h3, h4, h5, h6, h7, h8, h9, h10, h11, h12, h13, h14, h15, h16⟩ := hP
      refine ⟨hb, h1, fun t ht' => ?_, h3, h4, h5, h6, h7, h8, h9, h10, h11, h12, h13, h14, h15, h16.u 8 5 _ _ (Or.inl hk)⟩
      obtain ⟨a1, a2, a3, a4, a5, a6, a7, a8⟩ := h2 t ht'
      refine ⟨a1, a2, a3, a4, a5, ?_, a7, a8⟩
      show cc_u c 8 5 v.toInt.toNat f 8 5 t = ss_u σ 6 v.toInt.toNat f 6 t
      rw [cc_ue, ss_ue]
      split
      · rfl
      · exact a6
    · rw [if_neg q]
      exact ⟨⟨_, rfl, rfl, c, hQ, hP⟩, rfl, rfl⟩
  · rw [if_neg z] at hy ⊢
    rw [hy]
    exact bk_T_manner_5 ⟨fun _ => ⟨⟨_, rfl, rfl, c, hQ, hP⟩, rfl, rfl⟩, fun b q => (by cases q)⟩
end CW
