section TF
variable {G : mj_G} {B : cl_B} {σ τ : ss_S} {c : cc_S} {μ μ0 : mj_MM} {Ex : Option Value → mj_MM → Prop} {N S : Nat}
theorem lq_task (hQ : cl_Q B c μ0 μ) (hP : REP B 0 0 0 σ c) (v w u : Int32) (x : Nat) (hx2 : x < 2) : ∃ n, n ≤ 1 ∧ mj_M G my_T_task mY_T_task [va_rf (some (cD B 0 0)), .int v, .int w, .int u, .int (nI x)] (mj_nc μ + 2 * n) (mj_ns μ + 22 * n) μ (mj_XI (fun y μ' => y = (an_task σ v.toInt w.toInt u.toInt x).1 ∧ ∃ B', cZ B' = cZ B ∧ cD B' 0 0 = cD B 0 0 ∧ CR B' 0 0 0 (an_task σ v.toInt w.toInt u.toInt x).2 μ0 μ')) := by
  have hx := hP.x
  have hV := hP.v
  have hT := hV.1
  have hC := hV.2.1.2
  have hnow : σ 43 0 ≤ 50000 := hV.2.2.2.2.2.2.2.2.2
  have e9 : c 0 9 0 = σ 1 0 := hP.h1.2.1.2.1
  have e12 : c 0 12 0 = σ 43 0 := hP.h1.2.1.2.2.2.2
  have stay : ∃ B', cZ B' = cZ B ∧ cD B' 0 0 = cD B 0 0 ∧ CR B' 0 0 0 σ μ0 μ := ⟨B, rfl, rfl, c, hQ, hP⟩
  have v0 : (v < 0) = (v.toInt < 0) := by rw [mj_iLT, show (0 : Int32).toInt = 0 from by decide]
  have v255 : (255 < v) = (255 < v.toInt) := by rw [mj_iLT, show (255 : Int32).toInt = 255 from by decide]
  have u1 : (u < 1) = (u.toInt < 1) := by rw [mj_iLT, show (1 : Int32).toInt = 1 from by decide]
  have u100 : (u ≤ 100) = (u.toInt ≤ 100) := by rw [mj_iLE, show (100 : Int32).toInt = 100 from by decide]
  have u1' : (u ≤ 1) = (u.toInt ≤ 1) := by rw [mj_iLE, show (1 : Int32).toInt = 1 from by decide]
  have x0 : (nI x = 0) = (x = 0) := mj_z0 (by omega)
  by_cases good : (0 ≤ w.toInt ∧ w.toInt < σ 0 0) ∧ ((0 ≤ v.toInt ∧ v.toInt ≤ 255) ∧ 1 ≤ u.toInt ∧ u.toInt ≤ 100 ∧ (x = 0 ∨ u.toInt ≤ 1)) ∧ σ 43 0 = 0 ∧ σ 1 0 ≠ 100
  · obtain ⟨g1, g2, g3, g4⟩ := good
    refine ⟨1, Nat.le_refl _, ?_⟩
    obtain ⟨r, r1, rfl, r3⟩ := mj_nn (v := v) (by omega)
    obtain ⟨k, k1, rfl, k3⟩ := mj_nn (v := w) (by omega)
    obtain ⟨a, a1', rfl, a3⟩ := mj_nn (v := u) (by omega)
    have ean : an_task σ (nI r).toInt (nI k).toInt (nI a).toInt x = (nI (σ 1 0 + 1), an_new σ r k a x) := by
      unfold an_task
      rw [if_pos g1, if_pos g2, if_pos g3, if_neg g4, r3, k3, a3, Int.toNat_natCast, Int.toNat_natCast, Int.toNat_natCast]
    rw [ean]
    have hk : k < σ 0 0 := by omega
    have hck := hP.co hk
    have hd8 : ¬ cL B 8 (σ 1 0 + 1) := fun z => by
      have := (hP.b.2.2.2.2.2.2.2.1 _).mp z
      omega
    have hd6 : ¬ cL B 6 (1000 + (σ 1 0 + 1)) := fun z => by
      have := (hP.b.2.2.2.2.2.2.2.2.1 _).mp z
      have := hP.v.2.2.1
      omega
    have a0 : cL B 10 0 := hP.b.2.2.1.1
    have n0 : cN B 10 0 = 101 := hP.b.2.2.2.1.1
    refine mj_of (by decide) rfl (by decide) (Nat.le_of_ble_eq_true rfl) rfl ⟨Nat.le_add_right _ _, Nat.le_add_right _ _⟩ ?_
    refine bk_T_task_0 ⟨hQ.t0 hx, _, lc_coreOf hQ hP (nI k), fun y μ1 h q1 q2 => ?_⟩
    obtain ⟨hy, rfl⟩ := h
    rw [if_pos g1, k3, Int.toNat_natCast] at hy
    rw [hy]
    have hQ1 := hQ.pI 0 9 0 (σ 1 0 + 1) hx (by decide) (by omega)
    have go : ∀ a5, mj_t μ1 a5 = 0 → ∃ (N' S' : Nat) (P : mj_MM → Prop), mj_M G my_K_init mY_K_init [va_rf (some a5), .int (mj_i (mj_new (mj_pI μ1 (cD B 0 0) 9 (nI (σ 1 0 + 1))) a5 9 0 19) (cD B 0 0) 9), .int (nI r), va_rf (some (cD B 1 k)), .int (nI a), .int (nI x)] N' S' (mj_new (mj_pI μ1 (cD B 0 0) 9 (nI (σ 1 0 + 1))) a5 9 0 19) (mj_XV P) ∧ (N' ≤ mj_nc μ1 + 2 * 1 ∧ S' ≤ mj_ns μ1 + 22 * 1) ∧ ∀ μ', P μ' → mj_nc μ' = N' → mj_ns μ' = S' → mj_J G mY_T_task (fun v' μ' => mj_XI (fun y μ' => y = nI (σ 1 0 + 1) ∧ ∃ B', cZ B' = cZ B ∧ cD B' 0 0 = cD B 0 0 ∧ CR B' 0 0 0 (an_new σ r k a x) μ0 μ') v' μ' ∧ mj_nc μ' = mj_nc μ1 + 2 * 1 ∧ mj_ns μ' = mj_ns μ1 + 22 * 1) (mj_nc μ1 + 2 * 1) (mj_ns μ1 + 22 * 1) 101 [(0, va_rf (some (cD B 0 0))), (5, va_rf (some (cD B 1 k)))] [va_rf (some a5)] μ' := by
      intro a5 ha5
      have z8 : ∀ p, cc_u c 0 9 0 (σ 1 0 + 1) 8 p (σ 1 0 + 1) = 0 := fun p => by
        rw [cc_uk _ _ _ _ _ _ (by decide)]
        exact hP.h16 8 p _ (by decide) hd8
      have hQ2 := hQ1.new 8 (σ 1 0 + 1) a5 19 (by decide) hd8 ha5 z8
      have l8 : cL (cl_ext B 8 (σ 1 0 + 1) a5) 8 (σ 1 0 + 1) := Or.inr ⟨rfl, rfl⟩
      have eD8 : cD (cl_ext B 8 (σ 1 0 + 1) a5) 8 (σ 1 0 + 1) = a5 := xD B 8 _ a5
      have eD0 : cD (cl_ext B 8 (σ 1 0 + 1) a5) 0 0 = cD B 0 0 := xDl hd8 hx
      have eD1 : cD (cl_ext B 8 (σ 1 0 + 1) a5) 1 k = cD B 1 k := xDl hd8 hck
      have hi9 : mj_i (mj_new (mj_pI μ1 (cD B 0 0) 9 (nI (σ 1 0 + 1))) a5 9 0 19) (cD B 0 0) 9 = nI (σ 1 0 + 1) := by
        have := hQ2.i0_9 (Or.inl hx : cL (cl_ext B 8 (σ 1 0 + 1) a5) 0 0)
        rw [eD0] at this
        exact this
      rw [hi9]
      have hQ3 := hQ2.pI 8 5 (σ 1 0 + 1) 1 l8 (by decide) (by decide)
      have hd6' : ¬ cL (cl_ext B 8 (σ 1 0 + 1) a5) 6 (1000 + (σ 1 0 + 1)) := fun z => hd6 (z.resolve_right (fun q => by omega))
      have init : mj_M G my_K_init mY_K_init [va_rf (some a5), .int (nI (σ 1 0 + 1)), .int (nI r), va_rf (some (cD B 1 k)), .int (nI a), .int (nI x)] (mj_nc μ1 + 1 + 1) (mj_ns μ1 + 19 + 3) (mj_new (mj_pI μ1 (cD B 0 0) 9 (nI (σ 1 0 + 1))) a5 9 0 19) (mj_XV (fun μ' => ∃ a2, cl_Q (cl_ext (cl_ext B 8 (σ 1 0 + 1) a5) 6 (1000 + (σ 1 0 + 1)) a2) (cc_u (cc_u (cc_u (cc_u (cc_u (cc_u (cc_u (cc_u (cc_u (cc_u (cc_u c 0 9 0 (σ 1 0 + 1)) 8 5 (σ 1 0 + 1) 1) 6 0 (1000 + (σ 1 0 + 1)) 0) 6 1 (1000 + (σ 1 0 + 1)) 1) 8 6 (σ 1 0 + 1) (1000 + (σ 1 0 + 1) + 1)) 8 9 (σ 1 0 + 1) 0) 8 0 (σ 1 0 + 1) (σ 1 0 + 1)) 8 1 (σ 1 0 + 1) r) 8 2 (σ 1 0 + 1) (k + 1)) 8 3 (σ 1 0 + 1) a) 8 4 (σ 1 0 + 1) x) μ0 μ')) := by
        refine mj_of (by decide) rfl (by decide) (Nat.le_of_ble_eq_true rfl) rfl ⟨Nat.le_add_right _ _, Nat.le_add_right _ _⟩ ?_
        have t9 := hQ2.t8 l8
        rw [eD8] at t9
        refine bk_K_init_0 ⟨t9, ⟨Nat.le_refl _, Nat.le_refl _⟩, fun a2 ha2 => ?_⟩
        have hQ3' := hQ3
        rw [eD8] at hQ3'
        have z6 : ∀ p, cc_u (cc_u c 0 9 0 (σ 1 0 + 1)) 8 5 (σ 1 0 + 1) 1 6 p (1000 + (σ 1 0 + 1)) = 0 := fun p => by
          rw [cc_uk _ _ _ _ _ _ (by decide), cc_uk _ _ _ _ _ _ (by decide)]
          exact hP.h16 6 p _ (by decide) hd6
        have hQ4 := hQ3'.new 6 (1000 + (σ 1 0 + 1)) a2 3 (by decide) hd6' ha2 z6
        have l6 : cL (cl_ext (cl_ext B 8 (σ 1 0 + 1) a5) 6 (1000 + (σ 1 0 + 1)) a2) 6 (1000 + (σ 1 0 + 1)) := Or.inr ⟨rfl, rfl⟩
        have l8' : cL (cl_ext (cl_ext B 8 (σ 1 0 + 1) a5) 6 (1000 + (σ 1 0 + 1)) a2) 8 (σ 1 0 + 1) := Or.inl l8
        have fD6 : cD (cl_ext (cl_ext B 8 (σ 1 0 + 1) a5) 6 (1000 + (σ 1 0 + 1)) a2) 6 (1000 + (σ 1 0 + 1)) = a2 := xD _ 6 _ a2
        have fD8 : cD (cl_ext (cl_ext B 8 (σ 1 0 + 1) a5) 6 (1000 + (σ 1 0 + 1)) a2) 8 (σ 1 0 + 1) = a5 := (xDl hd6' l8).trans eD8
        have fD1 : cD (cl_ext (cl_ext B 8 (σ 1 0 + 1) a5) 6 (1000 + (σ 1 0 + 1)) a2) 1 k = cD B 1 k := (xDl hd6' (Or.inl hck : cL (cl_ext B 8 (σ 1 0 + 1) a5) 1 k)).trans eD1
        have hQ5 := (hQ4.pI 6 0 (1000 + (σ 1 0 + 1)) 0 l6 (by decide) (by decide)).pI 6 1 (1000 + (σ 1 0 + 1)) 1 l6 (by decide) (by decide)
        have pin : mj_M G my_P_init mY_P_init [va_rf (some a2), .int 0, .int 1] (mj_nc μ1 + 1 + 1) (mj_ns μ1 + 19 + 3) (mj_new (mj_pI (mj_new (mj_pI μ1 (cD B 0 0) 9 (nI (σ 1 0 + 1))) a5 9 0 19) a5 5 1) a2 7 0 3) (mj_XV (fun μ' => cl_Q (cl_ext (cl_ext B 8 (σ 1 0 + 1) a5) 6 (1000 + (σ 1 0 + 1)) a2) (cc_u (cc_u (cc_u (cc_u c 0 9 0 (σ 1 0 + 1)) 8 5 (σ 1 0 + 1) 1) 6 0 (1000 + (σ 1 0 + 1)) 0) 6 1 (1000 + (σ 1 0 + 1)) 1) μ0 μ')) := by
          refine mj_of (by decide) rfl (by decide) (Nat.le_of_ble_eq_true rfl) rfl ⟨Nat.le_refl _, Nat.le_refl _⟩ ?_
          have t6 := hQ4.t6 l6
          rw [fD6] at t6
          have hQ5' := hQ5
          rw [fD6] at hQ5'
          exact bk_P_init_0 ⟨t6, ⟨rfl, hQ5'⟩, rfl, rfl⟩
        refine ⟨_, pin, fun μ3 h q3 q4 => bk_K_init_19 ⟨?_, ?_, ⟨rfl, a2, ?_⟩, q3, q4⟩⟩
        · have := h.t8 l8'
          rw [fD8] at this
          exact this
        · rw [x0, mj_z1 (by omega)]
          omega
        · have hQ6 := ((((((h.pR 8 6 (σ 1 0 + 1) (1000 + (σ 1 0 + 1) + 1) l8' (by decide) (by omega) (Or.inr l6)).pI 8 9 (σ 1 0 + 1) 0 l8' (by decide) (by decide)).pI 8 0 (σ 1 0 + 1) (σ 1 0 + 1) l8' (by decide) (by omega)).pI 8 1 (σ 1 0 + 1) r l8' (by decide) (by omega)).pR 8 2 (σ 1 0 + 1) (k + 1) l8' (by decide) (by omega) (Or.inr (Or.inl (Or.inl hck)))).pI 8 3 (σ 1 0 + 1) a l8' (by decide) (by omega)).pI 8 4 (σ 1 0 + 1) x l8' (by decide) (by omega)
          have er1 : cl_ref (cl_ext (cl_ext B 8 (σ 1 0 + 1) a5) 6 (1000 + (σ 1 0 + 1)) a2) (cl_tk 8 6) (1000 + (σ 1 0 + 1) + 1) = some a2 := by
            show some (cD _ 6 (1000 + (σ 1 0 + 1))) = _
            rw [fD6]
          have er2 : cl_ref (cl_ext (cl_ext B 8 (σ 1 0 + 1) a5) 6 (1000 + (σ 1 0 + 1)) a2) (cl_tk 8 2) (k + 1) = some (cD B 1 k) := by
            show some (cD _ 1 k) = _
            rw [fD1]
          rw [fD8, er1, er2] at hQ6
          exact hQ6
      refine ⟨_, _, _, init, by omega, fun μ3 h q3 q4 => ?_⟩
      obtain ⟨a2, h⟩ := h
      have l8' : cL (cl_ext (cl_ext B 8 (σ 1 0 + 1) a5) 6 (1000 + (σ 1 0 + 1)) a2) 8 (σ 1 0 + 1) := Or.inl l8
      have lx : ∀ {K i}, cL B K i → cL (cl_ext (cl_ext B 8 (σ 1 0 + 1) a5) 6 (1000 + (σ 1 0 + 1)) a2) K i := fun z => Or.inl (Or.inl z)
      have fD8 : cD (cl_ext (cl_ext B 8 (σ 1 0 + 1) a5) 6 (1000 + (σ 1 0 + 1)) a2) 8 (σ 1 0 + 1) = a5 := (xDl hd6' l8).trans eD8
      have fDl : ∀ {K i}, cL B K i → cD (cl_ext (cl_ext B 8 (σ 1 0 + 1) a5) 6 (1000 + (σ 1 0 + 1)) a2) K i = cD B K i := fun {K i} z => (xDl hd6' (Or.inl z : cL (cl_ext B 8 (σ 1 0 + 1) a5) K i)).trans (xDl hd8 z)
      have tx := h.t0 (lx hx)
      rw [fDl hx] at tx
      have i9 := h.i0_9 (lx hx)
      rw [fDl hx] at i9
      have i9' : mj_i μ3 (cD B 0 0) 9 = nI (σ 1 0 + 1) := i9
      have r0 := h.r0_0 (lx hx)
      rw [fDl hx] at r0
      have e00 : c 0 0 0 = 1 := hP.h1.1.1
      have r0' : mj_r μ3 (cD B 0 0) 0 = some (cD B 10 0) := by
        rw [r0]
        show cl_ref _ 10 (c 0 0 0) = _
        rw [e00]
        show some (cD _ 10 0) = _
        rw [fDl a0]
      have ta := h.ta0 (lx a0)
      rw [fDl a0] at ta
      have en : mj_n μ3 (cD B 10 0) = 101 := by
        have := (h.1.2.2.1 10 0 (lx a0) (by decide)).1
        rw [fDl a0] at this
        rw [this]
        exact n0
      have t5 := h.t8 l8'
      rw [fD8] at t5
      have t1 := h.t1 (lx hck)
      rw [fDl hck] at t1
      have hQ7 := h.pA 0 (σ 1 0 + 1) (σ 1 0 + 1 + 1) (lx a0) (by show σ 1 0 + 1 < cN B 10 0; omega) (by omega) (Or.inr l8')
      have hcs : cs_task c (σ 1 0 + 1) r k a x = cc_u (cc_u (cc_u (cc_u (cc_u (cc_u (cc_u (cc_u (cc_u (cc_u (cc_u (cc_u c 0 9 0 (σ 1 0 + 1)) 8 5 (σ 1 0 + 1) 1) 6 0 (1000 + (σ 1 0 + 1)) 0) 6 1 (1000 + (σ 1 0 + 1)) 1) 8 6 (σ 1 0 + 1) (1000 + (σ 1 0 + 1) + 1)) 8 9 (σ 1 0 + 1) 0) 8 0 (σ 1 0 + 1) (σ 1 0 + 1)) 8 1 (σ 1 0 + 1) r) 8 2 (σ 1 0 + 1) (k + 1)) 8 3 (σ 1 0 + 1) a) 8 4 (σ 1 0 + 1) x) 10 0 (σ 1 0 + 1) (σ 1 0 + 1 + 1) := rfl
      rw [← hcs, fDl a0, show cl_ref (cl_ext (cl_ext B 8 (σ 1 0 + 1) a5) 6 (1000 + (σ 1 0 + 1)) a2) (cl_at 0) (σ 1 0 + 1 + 1) = some a5 from by show some (cD _ 8 (σ 1 0 + 1)) = _; rw [fD8]] at hQ7
      have hPn := hP.newT a5 a2 r k a x (by omega) hk (by omega) (by omega)
      have b13 : cs_task c (σ 1 0 + 1) r k a x 1 3 k = c 1 3 k := rfl
      have addT : mj_M G my_C_addTask mY_C_addTask [va_rf (some (cD B 1 k)), va_rf (some a5)] (mj_nc μ3) (mj_ns μ3) (mj_pR μ3 (cD B 10 0) (σ 1 0 + 1) (some a5)) (mj_XV (fun μ' => CR (cl_ext (cl_ext B 8 (σ 1 0 + 1) a5) 6 (1000 + (σ 1 0 + 1)) a2) 0 0 0 (an_new σ r k a x) μ0 μ')) := by
        refine mj_of (by decide) rfl (by decide) (Nat.le_of_ble_eq_true rfl) rfl ⟨Nat.le_refl _, Nat.le_refl _⟩ ?_
        have t1' := hQ7.t1 (lx hck)
        rw [fDl hck] at t1'
        have r13 := hQ7.r1_3 (lx hck)
        rw [fDl hck, b13] at r13
        have l13 := hQ7.l1_3 (lx hck)
        rw [b13] at l13
        refine bk_C_addTask_0 ⟨t1', ?_⟩
        rw [r13]
        by_cases z : c 1 3 k = 0
        · rw [z]
          refine ⟨fun _ => ⟨⟨rfl, _, ?_, hPn⟩, rfl, rfl⟩, fun b q => (by cases q)⟩
          have hQ8 := (hQ7.pR 1 2 k (σ 1 0 + 1 + 1) (lx hck) (by decide) (by omega) (Or.inr l8')).pR 1 3 k (σ 1 0 + 1 + 1) (lx hck) (by decide) (by omega) (Or.inr l8')
          rw [fDl hck, show cl_ref (cl_ext (cl_ext B 8 (σ 1 0 + 1) a5) 6 (1000 + (σ 1 0 + 1)) a2) (cl_tk 1 2) (σ 1 0 + 1 + 1) = some a5 from by show some (cD _ 8 (σ 1 0 + 1)) = _; rw [fD8], show cl_ref (cl_ext (cl_ext B 8 (σ 1 0 + 1) a5) 6 (1000 + (σ 1 0 + 1)) a2) (cl_tk 1 3) (σ 1 0 + 1 + 1) = some a5 from by show some (cD _ 8 (σ 1 0 + 1)) = _; rw [fD8]] at hQ8
          unfold cs_core
          rw [b13, if_pos z]
          exact hQ8
        · obtain ⟨s, hs⟩ : ∃ s, c 1 3 k = s + 1 := ⟨c 1 3 k - 1, by omega⟩
          rw [hs] at l13
          have ls : cL (cl_ext (cl_ext B 8 (σ 1 0 + 1) a5) 6 (1000 + (σ 1 0 + 1)) a2) 8 s := l13.resolve_left (by omega)
          rw [hs]
          refine ⟨fun q => (by cases q), fun b q => ?_⟩
          cases q
          refine ⟨hQ7.t8 ls, ⟨rfl, _, ?_, hPn⟩, rfl, rfl⟩
          have hQ8 := (hQ7.pR 8 17 s (σ 1 0 + 1 + 1) ls (by decide) (by omega) (Or.inr l8')).pR 1 3 k (σ 1 0 + 1 + 1) (lx hck) (by decide) (by omega) (Or.inr l8')
          rw [fDl hck, show cl_ref (cl_ext (cl_ext B 8 (σ 1 0 + 1) a5) 6 (1000 + (σ 1 0 + 1)) a2) (cl_tk 8 17) (σ 1 0 + 1 + 1) = some a5 from by show some (cD _ 8 (σ 1 0 + 1)) = _; rw [fD8], show cl_ref (cl_ext (cl_ext B 8 (σ 1 0 + 1) a5) 6 (1000 + (σ 1 0 + 1)) a2) (cl_tk 1 3) (σ 1 0 + 1 + 1) = some a5 from by show some (cD _ 8 (σ 1 0 + 1)) = _; rw [fD8]] at hQ8
          unfold cs_core
          rw [b13, if_neg z, hs, Nat.add_sub_cancel]
          exact hQ8
      refine bk_T_task_101 ⟨tx, _, r0', ta, ?_, _, rfl, t5, _, rfl, t1, ?_⟩
      · rw [i9', en]
        exact vp_in_nI (by omega) (by decide)
      · rw [i9', nI_clamp (by omega)]
        refine ⟨_, addT, fun μ4 h q5 q6 => bk_T_task_121 ⟨?_, ?_⟩⟩
        · obtain ⟨c5, hQ9, hP9⟩ := h
          have := hQ9.t0 (lx hx)
          rw [fDl hx] at this
          exact this
        · have h' := h
          obtain ⟨c5, hQ9, hP9⟩ := h
          have i9 := hQ9.i0_9 (lx hx)
          have e9' : c5 0 9 0 = σ 1 0 + 1 := hP9.h1.2.1.2.1
          rw [fDl hx, e9'] at i9
          rw [i9]
          exact ⟨⟨_, rfl, rfl, cl_ext (cl_ext B 8 (σ 1 0 + 1) a5) 6 (1000 + (σ 1 0 + 1)) a2, rfl, fDl hx, h'⟩, by omega, by omega⟩
    refine bk_T_task_5 ⟨fun q => (by cases q), fun b q => ?_⟩
    rw [x0, v0, v255, u1, u100, u1', hQ.i0_12 hx, hQ.i0_9 hx, e9, e12, mj_le0 (by omega), show (100 : Int32) = nI 100 from rfl, mj_lt (by omega) (by decide), nI_1]
    refine ⟨fun z => ⟨fun z1 => absurd z1 (by omega), fun _ => ⟨fun z1 => absurd z1 (by omega), fun _ => ⟨fun z1 => absurd z1 (by omega), fun _ => ⟨fun _ => ⟨hQ.t0 hx, fun _ => ⟨fun _ => ⟨by omega, fun a5 ha5 => go a5 ha5⟩, fun z1 => absurd (by omega) z1⟩, fun z1 => absurd g3 z1⟩, fun z1 => absurd (by omega) z1⟩⟩⟩⟩, fun z => ⟨fun z1 => absurd z1 (by omega), fun _ => ⟨fun z1 => absurd z1 (by omega), fun _ => ⟨fun z1 => absurd z1 (by omega), fun _ => ⟨fun _ => ⟨hQ.t0 hx, fun _ => ⟨fun _ => ⟨by omega, fun a5 ha5 => go a5 ha5⟩, fun z1 => absurd (by omega) z1⟩, fun z1 => absurd g3 z1⟩, fun z1 => absurd (by omega) z1⟩⟩⟩⟩⟩
  · refine ⟨0, Nat.zero_le _, ?_⟩
    refine mj_of (by decide) rfl (by decide) (Nat.le_of_ble_eq_true rfl) rfl ⟨Nat.le_refl _, Nat.le_refl _⟩ ?_
    unfold an_task
    refine bk_T_task_0 ⟨hQ.t0 hx, _, lc_coreOf hQ hP w, fun y μ1 h q1 q2 => ?_⟩
    obtain ⟨hy, rfl⟩ := h
    by_cases z : 0 ≤ w.toInt ∧ w.toInt < σ 0 0
    · rw [if_pos z] at hy ⊢
      rw [hy]
      refine bk_T_task_5 ⟨fun q => (by cases q), fun b q => ?_⟩
      rw [x0, v0, v255, u1, u100, u1', hQ.i0_12 hx, hQ.i0_9 hx, e9, e12, mj_le0 (by omega), show (100 : Int32) = nI 100 from rfl, mj_lt (by omega) (by decide)]
      refine ⟨fun z0 => ⟨fun z1 => ?_, fun z1 => ⟨fun z2 => ?_, fun z2 => ⟨fun z3 => ?_, fun z3 => ⟨fun z4 => ⟨hQ.t0 hx, fun z5 => ⟨fun z6 => absurd ⟨z, by omega, z5, by omega⟩ good, fun z6 => ?_⟩, fun z5 => ?_⟩, fun z4 => ?_⟩⟩⟩⟩, fun z0 => ⟨fun z1 => ?_, fun z1 => ⟨fun z2 => ?_, fun z2 => ⟨fun z3 => ?_, fun z3 => ⟨fun z4 => ⟨hQ.t0 hx, fun z5 => ⟨fun z6 => absurd ⟨z, by omega, z5, by omega⟩ good, fun z6 => ?_⟩, fun z5 => ?_⟩, fun z4 => ?_⟩⟩⟩⟩⟩
      · rw [if_neg (by omega)]
        exact ⟨⟨_, rfl, rfl, stay⟩, rfl, rfl⟩
      · rw [if_neg (by omega)]
        exact ⟨⟨_, rfl, rfl, stay⟩, rfl, rfl⟩
      · rw [if_neg (by omega)]
        exact ⟨⟨_, rfl, rfl, stay⟩, rfl, rfl⟩
      · rw [if_pos (by omega), if_pos z5, if_pos (by omega)]
        exact ⟨⟨_, rfl, rfl, stay⟩, rfl, rfl⟩
      · rw [if_pos (by omega), if_neg z5]
        exact ⟨⟨_, rfl, rfl, stay⟩, rfl, rfl⟩
      · rw [if_neg (by omega)]
        exact ⟨⟨_, rfl, rfl, stay⟩, rfl, rfl⟩
      · rw [if_neg (by omega)]
        exact ⟨⟨_, rfl, rfl, stay⟩, rfl, rfl⟩
      · rw [if_neg (by omega)]
        exact ⟨⟨_, rfl, rfl, stay⟩, rfl, rfl⟩
      · rw [if_neg (by omega)]
        exact ⟨⟨_, rfl, rfl, stay⟩, rfl, rfl⟩
      · rw [if_pos (by omega), if_pos z5, if_pos (by omega)]
        exact ⟨⟨_, rfl, rfl, stay⟩, rfl, rfl⟩
      · rw [if_pos (by omega), if_neg z5]
        exact ⟨⟨_, rfl, rfl, stay⟩, rfl, rfl⟩
      · rw [if_neg (by omega)]
        exact ⟨⟨_, rfl, rfl, stay⟩, rfl, rfl⟩
    · rw [if_neg z] at hy ⊢
      rw [hy]
      exact bk_T_task_5 ⟨fun _ => ⟨⟨_, rfl, rfl, stay⟩, rfl, rfl⟩, fun b q => (by cases q)⟩
end TF
